def wpJ_Main_could_96 (a1 : Int32)  (J : Int64 → Int64 → Int32 → zMem → Prop) (Q : Int64 → zMem → Prop) (x_4 : Int64) (x_6 : Int32) (x_9 : Int64) (s_0 : Int64) (M : zMem) : Prop :=
  ((lg_cmp x_9 0) ≤ 0 → ∀ zx10 : Int32, zx10 = x_6 + 1 → J s_0 x_4 zx10 M) ∧ (¬ (lg_cmp x_9 0) ≤ 0 → (¬ x_9 = 0) ∧ ∀ zx11 : Int64, zx11 = x_4 / x_9 → ∀ zx12 : Int32, zx12 = x_6 + 1 → J s_0 zx11 zx12 M)
def wpB_Main_could_19 (a1 : Int32)   (Q : Int64 → zMem → Prop) (J : Int64 → Int64 → Int32 → zMem → Prop) (x_2 : Int64) (x_4 : Int64) (x_6 : Int32) (M : zMem) : Prop :=
  ((M 1 1) ≤ x_6 → (¬ a1 = 0 → Q x_4 M) ∧ (a1 = 0 → Q x_2 M)) ∧ (¬ (M 1 1) ≤ x_6 → wp_Told_ticksAlone 1 x_6 M (fun zr4 zm3 => ((lg_cmp zr4 0) ≤ 0 → ∀ zx5 : Int32, zx5 = x_6 + 1 → J x_2 x_4 zx5 zm3) ∧ (¬ (lg_cmp zr4 0) ≤ 0 → ∀ zx6 : Int64, zx6 = (x_2 * zr4) + (((zm3 1 6).toInt64) * x_4) → ∀ zx7 : Int64, zx7 = x_4 * zr4 → wp_Main_commonDivisor zx6 zx7 zm3 (fun zr9 zm8 => ((lg_cmp zr9 0) ≤ 0 → wpJ_Main_could_96 a1 J Q zx7 x_6 zr9 zx6 zm8) ∧ (¬ (lg_cmp zr9 0) ≤ 0 → (¬ zr9 = 0) ∧ wpJ_Main_could_96 a1 J Q zx7 x_6 zr9 (zx6 / zr9) zm8)))))
def wp_Main_could (a1 : Int32) (M : zMem) (Q : Int64 → zMem → Prop) : Prop :=
  wp_Main_isHalf a1 M (fun zr2 zm1 => (¬ zr2 = 0 → ∃ n : Nat, zlp3 (wpB_Main_could_19 a1   Q) n 0 1 0 zm1) ∧ (zr2 = 0 → Q ((-1)) zm1))
set_option maxHeartbeats 4000000 in
set_option maxRecDepth 20000 in
theorem c_Main_could {l : Launch} {w : zWd} {a1 : Int32} {M : zMem} {post : Int64 → zMem → Prop} (h0 : zI_Main w) (h : wp_Main_could a1 M post) : zMl l ⟨"HandToHand", "could", "(I)J"⟩ prog_1_method_26_code 11 (Option.some .long) 2 47 w [.ref (zad w 0), .int a1] M post := by
  refine zMet (by decide) (Nat.le_of_ble_eq_true rfl) ?_
  intro p e s m below meth c X hr hlk hml hW ls hl
  have hx := X.1
  have hb := X.2.1
  have hl : lv_has ls 11 [(0, .ref (zad w 0)), (1, .int a1)] := hl
  have zJ_96 : ∀ (x_4 : Int64) (x_6 : Int32) (x_9 : Int64) (s_0 : Int64) (J : Int64 → Int64 → Int32 → zMem → Prop) (zJ : ∀ (y_2 : Int64) (y_4 : Int64) (y_6 : Int32) (M : zMem) (H : Heap) (locs : List Loc) (ls : Array Slot), zWo w s.heap M H locs → lv_has ls 11 [(0, .ref (zad w 0)), (1, .int a1), (2, .long y_2), (4, .long y_4), (6, .int y_6)] → J y_2 y_4 y_6 M → W p l e (zRm 2 47) s m ([.ref (zad w 0), .int a1] : List Value).toArray below meth c H locs 0 0 (MQ below (va_Ql post (zB w) (zA w)) ([.ref (zad w 0), .int a1] : List Value).toArray s 0 0 (zA w)) (F0 m 19 ls [])) (M : zMem) (H : Heap) (locs : List Loc) (ls : Array Slot), zWo w s.heap M H locs → lv_has ls 11 [(0, .ref (zad w 0)), (1, .int a1), (4, .long x_4), (6, .int x_6), (9, .long x_9)] → wpJ_Main_could_96 a1 J post x_4 x_6 x_9 s_0 M → W p l e (zRm 2 47) s m ([.ref (zad w 0), .int a1] : List Value).toArray below meth c H locs 0 0 (MQ below (va_Ql post (zB w) (zA w)) ([.ref (zad w 0), .int a1] : List Value).toArray s 0 0 (zA w)) (F0 m 96 ls [.long s_0]) := by
    intro x_4 x_6 x_9 s_0 J zJ M H locs ls hW hl h
    unfold wpJ_Main_could_96 at h
    refine lv_lstore_n (lv' := [(2, .long s_0), (0, .ref (zad w 0)), (1, .int a1), (4, .long x_4), (6, .int x_6), (9, .long x_9)]) hx hb dX10_could_96 rfl hl (Nat.le_of_ble_eq_true rfl) rfl (fun ls hl => ?_)
    refine lv_lload hx hb dX10_could_97 (lv_at hl 5 rfl) ?_
    refine lv_lconst hx hb dX10_could_99 zc_l0 ?_
    refine W.lcmp hx hb dX10_could_100 ?_
    refine lv_if_le (tgt := 112) hx hb dX10_could_101 rfl (fun c => ?_) (fun c => ?_)
    · replace h := h.1 c
      refine lv_lload hx hb dX10_could_112 (lv_at hl 3 rfl) ?_
      refine lv_lstore (lv' := [(4, .long x_4), (2, .long s_0), (0, .ref (zad w 0)), (1, .int a1), (6, .int x_6), (9, .long x_9)]) hx hb dX10_could_114 hl (Nat.le_of_ble_eq_true rfl) rfl (fun ls hl => ?_)
      obtain ⟨zx10, ezx10⟩ : ∃ y : Int32, y = x_6 + 1 := ⟨_, rfl⟩
      replace h := h zx10 ezx10
      refine lv_iinc (v := zx10) (lv' := [(6, .int zx10), (4, .long x_4), (2, .long s_0), (0, .ref (zad w 0)), (1, .int a1), (9, .long x_9)]) hx hb dX10_could_116 hl (k := 4) rfl (by rw [ezx10, zc_i1]) (Nat.le_of_ble_eq_true rfl) rfl (fun ls hl => ?_)
      refine lv_goto (tgt := 19) hx hb dX10_could_119 rfl ?_
      exact zJ s_0 x_4 zx10 M H locs ls hW (lv_sub hl [3, 4, 2, 1, 0] rfl) h
    · replace h := h.2 c
      refine lv_lload hx hb dX10_could_104 (lv_at hl 3 rfl) ?_
      refine lv_lload hx hb dX10_could_106 (lv_at hl 5 rfl) ?_
      obtain ⟨g, h⟩ := h
      refine lv_ldiv hx hb dX10_could_108 g ?_
      refine lv_goto (tgt := 114) hx hb dX10_could_109 rfl ?_
      refine lv_topl (fun zx11 ezx11 => ?_)
      replace h := h zx11 ezx11
      refine lv_lstore (lv' := [(4, .long zx11), (2, .long s_0), (0, .ref (zad w 0)), (1, .int a1), (6, .int x_6), (9, .long x_9)]) hx hb dX10_could_114 hl (Nat.le_of_ble_eq_true rfl) rfl (fun ls hl => ?_)
      obtain ⟨zx12, ezx12⟩ : ∃ y : Int32, y = x_6 + 1 := ⟨_, rfl⟩
      replace h := h zx12 ezx12
      refine lv_iinc (v := zx12) (lv' := [(6, .int zx12), (4, .long zx11), (2, .long s_0), (0, .ref (zad w 0)), (1, .int a1), (9, .long x_9)]) hx hb dX10_could_116 hl (k := 4) rfl (by rw [ezx12, zc_i1]) (Nat.le_of_ble_eq_true rfl) rfl (fun ls hl => ?_)
      refine lv_goto (tgt := 19) hx hb dX10_could_119 rfl ?_
      exact zJ s_0 zx11 zx12 M H locs ls hW (lv_sub hl [3, 4, 2, 1, 0] rfl) h
  have zL_19 :  ∀ (n : Nat) (x_2 : Int64) (x_4 : Int64) (x_6 : Int32) (M : zMem) (H : Heap) (locs : List Loc) (ls : Array Slot), zWo w s.heap M H locs → lv_has ls 11 [(0, .ref (zad w 0)), (1, .int a1), (2, .long x_2), (4, .long x_4), (6, .int x_6)] → zlp3 (wpB_Main_could_19 a1   post) n x_2 x_4 x_6 M → W p l e (zRm 2 47) s m ([.ref (zad w 0), .int a1] : List Value).toArray below meth c H locs 0 0 (MQ below (va_Ql post (zB w) (zA w)) ([.ref (zad w 0), .int a1] : List Value).toArray s 0 0 (zA w)) (F0 m 19 ls []) := by
    intro n
    induction n with
    | zero => intro x_2 x_4 x_6 M H locs ls hW hl h; exact h.elim
    | succ n zJ =>
      intro x_2 x_4 x_6 M H locs ls hW hl h
      have h : wpB_Main_could_19 a1   post (zlp3 (wpB_Main_could_19 a1   post) n) x_2 x_4 x_6 M := h
      unfold wpB_Main_could_19 at h
      refine lv_iload hx hb dX10_could_19 (lv_at hl 4 rfl) ?_
      refine lv_aload_n hx hb dX10_could_21 rfl (lv_at hl 0 rfl) ?_
      refine zg_Main_told X hW h0 zu_467 dX10_could_22 ?_
      refine zg_Told_hands X hW h0.2.2.2.2.1 zu_41 dX10_could_25 ?_
      refine lv_icmp_ge (tgt := 122) hx hb dX10_could_28 rfl (fun c => ?_) (fun c => ?_)
      · replace h := h.1 c
        refine lv_iload_n hx hb dX10_could_122 rfl (lv_at hl 1 rfl) ?_
        refine lv_if_ne (tgt := 130) hx hb dX10_could_123 rfl (fun c => ?_) (fun c => ?_)
        · replace h := h.1 c
          refine lv_lload hx hb dX10_could_130 (lv_at hl 3 rfl) ?_
          exact zretl X hr hlk hW h dX10_could_132
        · replace h := h.2 c
          refine lv_lload_n hx hb dX10_could_126 rfl (lv_at hl 2 rfl) ?_
          refine lv_goto (tgt := 132) hx hb dX10_could_127 rfl ?_
          exact zretl X hr hlk hW h dX10_could_132
      · replace h := h.2 c
        refine lv_aload_n hx hb dX10_could_31 rfl (lv_at hl 0 rfl) ?_
        refine zg_Main_told X hW h0 zu_467 dX10_could_32 ?_
        refine lv_iload hx hb dX10_could_35 (lv_at hl 4 rfl) ?_
        refine zcalll (zrunV (As := [.int x_6]) (rest := []) X hml hl hW h0.2.2.2.2.1.1 rfl zk_Main_289 (c_Told_ticksAlone h0.2.2.2.2.1 h) rfl ⟨Nat.le_of_ble_eq_true rfl, Nat.le_of_ble_eq_true rfl⟩ ⟨Nat.le_refl 0, Nat.le_refl 0⟩ rfl (Nat.le_of_ble_eq_true rfl) dX10_could_37) hW (fun zr4 zm3 H locs h hW => ?_)
        refine lv_lstore (lv' := [(7, .long zr4), (0, .ref (zad w 0)), (1, .int a1), (2, .long x_2), (4, .long x_4), (6, .int x_6)]) hx hb dX10_could_40 hl (Nat.le_of_ble_eq_true rfl) rfl (fun ls hl => ?_)
        refine lv_lload hx hb dX10_could_42 (lv_at hl 0 rfl) ?_
        refine lv_lconst hx hb dX10_could_44 zc_l0 ?_
        refine W.lcmp hx hb dX10_could_45 ?_
        refine lv_if_le (tgt := 116) hx hb dX10_could_46 rfl (fun c => ?_) (fun c => ?_)
        · replace h := h.1 c
          obtain ⟨zx5, ezx5⟩ : ∃ y : Int32, y = x_6 + 1 := ⟨_, rfl⟩
          replace h := h zx5 ezx5
          refine lv_iinc (v := zx5) (lv' := [(6, .int zx5), (7, .long zr4), (0, .ref (zad w 0)), (1, .int a1), (2, .long x_2), (4, .long x_4)]) hx hb dX10_could_116 hl (k := 5) rfl (by rw [ezx5, zc_i1]) (Nat.le_of_ble_eq_true rfl) rfl (fun ls hl => ?_)
          refine lv_goto (tgt := 19) hx hb dX10_could_119 rfl ?_
          exact zJ x_2 x_4 zx5 zm3 H locs ls hW (lv_sub hl [2, 3, 4, 5, 0] rfl) h
        · replace h := h.2 c
          refine lv_lload_n hx hb dX10_could_49 rfl (lv_at hl 3 rfl) ?_
          refine lv_lload hx hb dX10_could_50 (lv_at hl 0 rfl) ?_
          refine lv_lmul hx hb dX10_could_52 ?_
          refine lv_aload_n hx hb dX10_could_53 rfl (lv_at hl 1 rfl) ?_
          refine zg_Main_told X hW h0 zu_467 dX10_could_54 ?_
          refine zg_Told_rowLength X hW h0.2.2.2.2.1 zu_56 dX10_could_57 ?_
          refine lv_i2l hx hb dX10_could_60 rfl ?_
          refine lv_lload hx hb dX10_could_61 (lv_at hl 4 rfl) ?_
          refine lv_lmul hx hb dX10_could_63 ?_
          refine lv_ladd hx hb dX10_could_64 ?_
          refine lv_topl (fun zx6 ezx6 => ?_)
          replace h := h zx6 ezx6
          refine lv_lstore_n (lv' := [(2, .long zx6), (7, .long zr4), (0, .ref (zad w 0)), (1, .int a1), (4, .long x_4), (6, .int x_6)]) hx hb dX10_could_65 rfl hl (Nat.le_of_ble_eq_true rfl) rfl (fun ls hl => ?_)
          refine lv_lload hx hb dX10_could_66 (lv_at hl 4 rfl) ?_
          refine lv_lload hx hb dX10_could_68 (lv_at hl 1 rfl) ?_
          refine lv_lmul hx hb dX10_could_70 ?_
          refine lv_topl (fun zx7 ezx7 => ?_)
          replace h := h zx7 ezx7
          refine lv_lstore (lv' := [(4, .long zx7), (2, .long zx6), (7, .long zr4), (0, .ref (zad w 0)), (1, .int a1), (6, .int x_6)]) hx hb dX10_could_71 hl (Nat.le_of_ble_eq_true rfl) rfl (fun ls hl => ?_)
          refine lv_lload_n hx hb dX10_could_73 rfl (lv_at hl 1 rfl) ?_
          refine lv_lload hx hb dX10_could_74 (lv_at hl 0 rfl) ?_
          refine zcalll (zrunS (As := [.long zx6, .long zx7]) (rest := []) X hml hl hW zk_Main_293 (c_Main_commonDivisor  h) rfl ⟨Nat.le_of_ble_eq_true rfl, Nat.le_of_ble_eq_true rfl⟩ ⟨Nat.le_refl 0, Nat.le_refl 0⟩ rfl (Nat.le_of_ble_eq_true rfl) dX10_could_76) hW (fun zr9 zm8 H locs h hW => ?_)
          refine lv_lstore (lv' := [(9, .long zr9), (4, .long zx7), (2, .long zx6), (7, .long zr4), (0, .ref (zad w 0)), (1, .int a1), (6, .int x_6)]) hx hb dX10_could_79 hl (Nat.le_of_ble_eq_true rfl) rfl (fun ls hl => ?_)
          refine lv_lload hx hb dX10_could_81 (lv_at hl 0 rfl) ?_
          refine lv_lconst hx hb dX10_could_83 zc_l0 ?_
          refine W.lcmp hx hb dX10_could_84 ?_
          refine lv_if_le (tgt := 95) hx hb dX10_could_85 rfl (fun c => ?_) (fun c => ?_)
          · replace h := h.1 c
            refine lv_lload_n hx hb dX10_could_95 rfl (lv_at hl 2 rfl) ?_
            exact zJ_96 zx7 x_6 zr9 zx6 _ zJ zm8 H locs ls hW (lv_sub hl [4, 5, 1, 6, 0] rfl) h
          · replace h := h.2 c
            refine lv_lload_n hx hb dX10_could_88 rfl (lv_at hl 2 rfl) ?_
            refine lv_lload hx hb dX10_could_89 (lv_at hl 0 rfl) ?_
            obtain ⟨g, h⟩ := h
            refine lv_ldiv hx hb dX10_could_91 g ?_
            refine lv_goto (tgt := 96) hx hb dX10_could_92 rfl ?_
            exact zJ_96 zx7 x_6 zr9 (zx6 / zr9) _ zJ zm8 H locs ls hW (lv_sub hl [4, 5, 1, 6, 0] rfl) h
  unfold wp_Main_could at h
  have zMain : ∀ (H : Heap) (locs : List Loc) (ls : Array Slot), zWo w s.heap M H locs → lv_has ls 11 [(0, .ref (zad w 0)), (1, .int a1)] → W p l e (zRm 2 47) s m ([.ref (zad w 0), .int a1] : List Value).toArray below meth c H locs 0 0 (MQ below (va_Ql post (zB w) (zA w)) ([.ref (zad w 0), .int a1] : List Value).toArray s 0 0 (zA w)) (F0 m 0 ls []) := by
    intro H locs ls hW hl
    refine lv_iload_n hx hb dX10_could_0 rfl (lv_at hl 1 rfl) ?_
    refine zcalli (zrunS (As := [.int a1]) (rest := []) X hml hl hW zk_Main_278 (c_Main_isHalf  h) rfl ⟨Nat.le_of_ble_eq_true rfl, Nat.le_of_ble_eq_true rfl⟩ ⟨Nat.le_refl 0, Nat.le_refl 0⟩ rfl (Nat.le_of_ble_eq_true rfl) dX10_could_1) hW (fun zr2 zm1 H locs h hW => ?_)
    refine lv_if_ne (tgt := 11) hx hb dX10_could_4 rfl (fun c => ?_) (fun c => ?_)
    · replace h := h.1 c
      refine lv_lconst hx hb dX10_could_11 zc_l0 ?_
      refine lv_lstore_n (lv' := [(2, .long 0), (0, .ref (zad w 0)), (1, .int a1)]) hx hb dX10_could_12 rfl hl (Nat.le_of_ble_eq_true rfl) rfl (fun ls hl => ?_)
      refine lv_lconst hx hb dX10_could_13 zc_l1 ?_
      refine lv_lstore (lv' := [(4, .long 1), (2, .long 0), (0, .ref (zad w 0)), (1, .int a1)]) hx hb dX10_could_14 hl (Nat.le_of_ble_eq_true rfl) rfl (fun ls hl => ?_)
      refine lv_iconst hx hb dX10_could_16 zc_i0 ?_
      refine lv_istore (lv' := [(6, .int 0), (4, .long 1), (2, .long 0), (0, .ref (zad w 0)), (1, .int a1)]) hx hb dX10_could_17 hl (Nat.le_of_ble_eq_true rfl) rfl (fun ls hl => ?_)
      obtain ⟨n, h⟩ := h
      refine zL_19   n 0 1 0 zm1 H locs ls hW (lv_sub hl [3, 4, 2, 1, 0] rfl) h
    · replace h := h.2 c
      refine lv_ldc2 hx hb X.2.2.1 (X.2.2.2.1 _ zu_892) dX10_could_7 ?_
      exact zretl X hr hlk hW h dX10_could_10
  exact zMain s.heap [] ls hW hl
def wp_Main_isOrder (a1 : Int32) (M : zMem) (Q : Int32 → zMem → Prop) : Prop :=
  (a1 < 0 → Q 0 M) ∧ (¬ a1 < 0 → wp_Main_numberOfOrders (M 1 1) M (fun zr2 zm1 => (zr2 ≤ a1 → Q 0 zm1) ∧ (¬ zr2 ≤ a1 → Q 1 zm1)))
set_option maxHeartbeats 4000000 in
set_option maxRecDepth 20000 in
theorem c_Main_isOrder {l : Launch} {w : zWd} {a1 : Int32} {M : zMem} {post : Int32 → zMem → Prop} (h0 : zI_Main w) (h : wp_Main_isOrder a1 M post) : zMi l ⟨"HandToHand", "isOrder", "(I)Z"⟩ prog_1_method_39_code 2 (Option.some .boolean) 1 22 w [.ref (zad w 0), .int a1] M post := by
  refine zMet (by decide) (Nat.le_of_ble_eq_true rfl) ?_
  intro p e s m below meth c X hr hlk hml hW ls hl
  have hx := X.1
  have hb := X.2.1
  have hl : lv_has ls 2 [(0, .ref (zad w 0)), (1, .int a1)] := hl
  unfold wp_Main_isOrder at h
  have zMain : ∀ (H : Heap) (locs : List Loc) (ls : Array Slot), zWo w s.heap M H locs → lv_has ls 2 [(0, .ref (zad w 0)), (1, .int a1)] → W p l e (zRm 1 22) s m ([.ref (zad w 0), .int a1] : List Value).toArray below meth c H locs 0 0 (MQ below (va_Qi post (zB w) (zA w)) ([.ref (zad w 0), .int a1] : List Value).toArray s 0 0 (zA w)) (F0 m 0 ls []) := by
    intro H locs ls hW hl
    refine lv_iload_n hx hb dX10_isOrder_0 rfl (lv_at hl 1 rfl) ?_
    refine lv_if_lt (tgt := 22) hx hb dX10_isOrder_1 rfl (fun c => ?_) (fun c => ?_)
    · replace h := h.1 c
      refine lv_iconst hx hb dX10_isOrder_22 zc_i0 ?_
      exact zretz X hr hlk hW rfl h dX10_isOrder_23
    · replace h := h.2 c
      refine lv_iload_n hx hb dX10_isOrder_4 rfl (lv_at hl 1 rfl) ?_
      refine lv_aload_n hx hb dX10_isOrder_5 rfl (lv_at hl 0 rfl) ?_
      refine zg_Main_told X hW h0 zu_467 dX10_isOrder_6 ?_
      refine zg_Told_hands X hW h0.2.2.2.2.1 zu_41 dX10_isOrder_9 ?_
      refine zcalli (zrunS (As := [.int (M 1 1)]) (rest := [.int a1]) X hml hl hW zk_Main_309 (c_Main_numberOfOrders  h) rfl ⟨Nat.le_of_ble_eq_true rfl, Nat.le_of_ble_eq_true rfl⟩ ⟨Nat.le_refl 0, Nat.le_refl 0⟩ rfl (Nat.le_of_ble_eq_true rfl) dX10_isOrder_12) hW (fun zr2 zm1 H locs h hW => ?_)
      refine lv_icmp_ge (tgt := 22) hx hb dX10_isOrder_15 rfl (fun c => ?_) (fun c => ?_)
      · replace h := h.1 c
        refine lv_iconst hx hb dX10_isOrder_22 zc_i0 ?_
        exact zretz X hr hlk hW rfl h dX10_isOrder_23
      · replace h := h.2 c
        refine lv_iconst hx hb dX10_isOrder_18 zc_i1 ?_
        refine lv_goto (tgt := 23) hx hb dX10_isOrder_19 rfl ?_
        exact zretz X hr hlk hW rfl h dX10_isOrder_23
  exact zMain s.heap [] ls hW hl
def wpB_Main_findOrder_41 (a1 : Int32)  (K79 : zMem → Prop) (Q : zMem → Prop) (J : Int32 → zMem → Prop) (x_2 : Int32) (M : zMem) : Prop :=
  ((M 1 1) ≤ x_2 → K79 M) ∧ (¬ (M 1 1) ≤ x_2 → vp_in x_2 5 ∧ wp_Told_copyPacesOf 6 1 (M 59 (ix x_2)) x_2 M (fun zm5 => ∀ zx7 : Int32, zx7 = x_2 + 1 → J zx7 zm5))
def wp_Main_findOrder (a1 : Int32) (M : zMem) (Q : zMem → Prop) : Prop :=
  vp_in a1 120 ∧ ((M 58 (ix a1)) = 0 → wp_Orders_standAs 56 a1 (M 1 1) M (fun zm1 => wp_Told_copyFrom 6 1 zm1 (fun zm3 => ∃ n : Nat, zlp1 (wpB_Main_findOrder_41 a1  (fun (zm8 : zMem) => wp_Settling_settle 41 6 55 zm8 (fun zm9 => vp_in a1 120 ∧ ∀ zm11 : zMem, zm11 = zup zm9 57 (ix a1) (zm9 55 6) → vp_in a1 120 ∧ ∀ zm12 : zMem, zm12 = zup zm11 58 (ix a1) (zm11 55 7) → Q zm12)) Q) n 0 zm3))) ∧ (¬ (M 58 (ix a1)) = 0 → Q M)
set_option maxHeartbeats 4000000 in
set_option maxRecDepth 20000 in
theorem c_Main_findOrder {l : Launch} {w : zWd} {a1 : Int32} {M : zMem} {post : zMem → Prop} (h0 : zI_Main w) (h : wp_Main_findOrder a1 M post) : zMv l ⟨"HandToHand", "findOrder", "(I)V"⟩ prog_1_method_50_code 3 none 5 118 w [.ref (zad w 0), .int a1] M post := by
  refine zMet (by decide) (Nat.le_of_ble_eq_true rfl) ?_
  intro p e s m below meth c X hr hlk hml hW ls hl
  have hx := X.1
  have hb := X.2.1
  have hl : lv_has ls 3 [(0, .ref (zad w 0)), (1, .int a1)] := hl
  have zL_41 : ∀ (K79 : zMem → Prop) (zK79 : ∀ (M : zMem) (H : Heap) (locs : List Loc) (ls : Array Slot), zWo w s.heap M H locs → lv_has ls 3 [(0, .ref (zad w 0)), (1, .int a1)] → K79 M → W p l e (zRm 5 118) s m ([.ref (zad w 0), .int a1] : List Value).toArray below meth c H locs 0 0 (MQ below (va_Qv post (zB w) (zA w)) ([.ref (zad w 0), .int a1] : List Value).toArray s 0 0 (zA w)) (F0 m 79 ls [])), ∀ (n : Nat) (x_2 : Int32) (M : zMem) (H : Heap) (locs : List Loc) (ls : Array Slot), zWo w s.heap M H locs → lv_has ls 3 [(0, .ref (zad w 0)), (1, .int a1), (2, .int x_2)] → zlp1 (wpB_Main_findOrder_41 a1  K79 post) n x_2 M → W p l e (zRm 5 118) s m ([.ref (zad w 0), .int a1] : List Value).toArray below meth c H locs 0 0 (MQ below (va_Qv post (zB w) (zA w)) ([.ref (zad w 0), .int a1] : List Value).toArray s 0 0 (zA w)) (F0 m 41 ls []) := by
    intro K79 zK79 n
    induction n with
    | zero => intro x_2 M H locs ls hW hl h; exact h.elim
    | succ n zJ =>
      intro x_2 M H locs ls hW hl h
      have h : wpB_Main_findOrder_41 a1  K79 post (zlp1 (wpB_Main_findOrder_41 a1  K79 post) n) x_2 M := h
      unfold wpB_Main_findOrder_41 at h
      refine lv_iload_n hx hb dX10_findOrder_41 rfl (lv_at hl 2 rfl) ?_
      refine lv_aload_n hx hb dX10_findOrder_42 rfl (lv_at hl 0 rfl) ?_
      refine zg_Main_told X hW h0 zu_467 dX10_findOrder_43 ?_
      refine zg_Told_hands X hW h0.2.2.2.2.1 zu_41 dX10_findOrder_46 ?_
      refine lv_icmp_ge (tgt := 79) hx hb dX10_findOrder_49 rfl (fun c => ?_) (fun c => ?_)
      · replace h := h.1 c
        exact zK79 M H locs ls hW (lv_sub hl [0, 1] rfl) h
      · replace h := h.2 c
        refine lv_aload_n hx hb dX10_findOrder_52 rfl (lv_at hl 0 rfl) ?_
        refine zg_Main_variant X hW h0 zu_468 dX10_findOrder_53 ?_
        refine lv_aload_n hx hb dX10_findOrder_56 rfl (lv_at hl 0 rfl) ?_
        refine zg_Main_told X hW h0 zu_467 dX10_findOrder_57 ?_
        refine lv_aload_n hx hb dX10_findOrder_60 rfl (lv_at hl 0 rfl) ?_
        refine zg_Main_orders X hW h0 zu_477 dX10_findOrder_61 ?_
        refine zg_Orders_standing X hW h0.2.2.2.2.2.2.2.2.2.2.2.2.1 zu_340 dX10_findOrder_64 ?_
        refine lv_iload_n hx hb dX10_findOrder_67 rfl (lv_at hl 2 rfl) ?_
        obtain ⟨g, h⟩ := h
        refine ziald X hW h0.2.2.2.2.2.2.2.2.2.2.2.2.1.2.2.2 g dX10_findOrder_68 ?_
        refine lv_iload_n hx hb dX10_findOrder_69 rfl (lv_at hl 2 rfl) ?_
        refine zcallv (zrunV (As := [.ref (zad w 1), .int (M 59 (ix x_2)), .int x_2]) (rest := []) X hml hl hW h0.2.2.2.2.2.1.1 rfl zk_Main_379 (c_Told_copyPacesOf h0.2.2.2.2.2.1 h0.2.2.2.2.1 h) rfl ⟨Nat.le_of_ble_eq_true rfl, Nat.le_of_ble_eq_true rfl⟩ ⟨Nat.le_refl 0, Nat.le_refl 0⟩ rfl (Nat.le_of_ble_eq_true rfl) dX10_findOrder_70) hW (fun zm5 H locs h hW => ?_)
        obtain ⟨zx7, ezx7⟩ : ∃ y : Int32, y = x_2 + 1 := ⟨_, rfl⟩
        replace h := h zx7 ezx7
        refine lv_iinc (v := zx7) (lv' := [(2, .int zx7), (0, .ref (zad w 0)), (1, .int a1)]) hx hb dX10_findOrder_73 hl (k := 2) rfl (by rw [ezx7, zc_i1]) (Nat.le_of_ble_eq_true rfl) rfl (fun ls hl => ?_)
        refine lv_goto (tgt := 41) hx hb dX10_findOrder_76 rfl ?_
        exact zJ zx7 zm5 H locs ls hW (lv_sub hl [1, 2, 0] rfl) h
  unfold wp_Main_findOrder at h
  have zMain : ∀ (H : Heap) (locs : List Loc) (ls : Array Slot), zWo w s.heap M H locs → lv_has ls 3 [(0, .ref (zad w 0)), (1, .int a1)] → W p l e (zRm 5 118) s m ([.ref (zad w 0), .int a1] : List Value).toArray below meth c H locs 0 0 (MQ below (va_Qv post (zB w) (zA w)) ([.ref (zad w 0), .int a1] : List Value).toArray s 0 0 (zA w)) (F0 m 0 ls []) := by
    intro H locs ls hW hl
    refine lv_aload_n hx hb dX10_findOrder_0 rfl (lv_at hl 0 rfl) ?_
    refine zg_Main_orders X hW h0 zu_477 dX10_findOrder_1 ?_
    refine zg_Orders_bottoms X hW h0.2.2.2.2.2.2.2.2.2.2.2.2.1 zu_338 dX10_findOrder_4 ?_
    refine lv_iload_n hx hb dX10_findOrder_7 rfl (lv_at hl 1 rfl) ?_
    obtain ⟨g, h⟩ := h
    refine ziald X hW h0.2.2.2.2.2.2.2.2.2.2.2.2.1.2.2.1 g dX10_findOrder_8 ?_
    refine lv_if_eq (tgt := 13) hx hb dX10_findOrder_9 rfl (fun c => ?_) (fun c => ?_)
    · replace h := h.1 c
      refine lv_aload_n hx hb dX10_findOrder_13 rfl (lv_at hl 0 rfl) ?_
      refine zg_Main_orders X hW h0 zu_477 dX10_findOrder_14 ?_
      refine lv_iload_n hx hb dX10_findOrder_17 rfl (lv_at hl 1 rfl) ?_
      refine lv_aload_n hx hb dX10_findOrder_18 rfl (lv_at hl 0 rfl) ?_
      refine zg_Main_told X hW h0 zu_467 dX10_findOrder_19 ?_
      refine zg_Told_hands X hW h0.2.2.2.2.1 zu_41 dX10_findOrder_22 ?_
      refine zcallv (zrunV (As := [.int a1, .int (M 1 1)]) (rest := []) X hml hl hW h0.2.2.2.2.2.2.2.2.2.2.2.2.1.1 rfl zk_Main_317 (c_Orders_standAs h0.2.2.2.2.2.2.2.2.2.2.2.2.1 h) rfl ⟨Nat.le_of_ble_eq_true rfl, Nat.le_of_ble_eq_true rfl⟩ ⟨Nat.le_refl 0, Nat.le_refl 0⟩ rfl (Nat.le_of_ble_eq_true rfl) dX10_findOrder_25) hW (fun zm1 H locs h hW => ?_)
      refine lv_aload_n hx hb dX10_findOrder_28 rfl (lv_at hl 0 rfl) ?_
      refine zg_Main_variant X hW h0 zu_468 dX10_findOrder_29 ?_
      refine lv_aload_n hx hb dX10_findOrder_32 rfl (lv_at hl 0 rfl) ?_
      refine zg_Main_told X hW h0 zu_467 dX10_findOrder_33 ?_
      refine zcallv (zrunV (As := [.ref (zad w 1)]) (rest := []) X hml hl hW h0.2.2.2.2.2.1.1 rfl zk_Main_117 (c_Told_copyFrom h0.2.2.2.2.2.1 h0.2.2.2.2.1 h) rfl ⟨Nat.le_of_ble_eq_true rfl, Nat.le_of_ble_eq_true rfl⟩ ⟨Nat.le_refl 0, Nat.le_refl 0⟩ rfl (Nat.le_of_ble_eq_true rfl) dX10_findOrder_36) hW (fun zm3 H locs h hW => ?_)
      refine lv_iconst hx hb dX10_findOrder_39 zc_i0 ?_
      refine lv_istore_n (lv' := [(2, .int 0), (0, .ref (zad w 0)), (1, .int a1)]) hx hb dX10_findOrder_40 rfl hl (Nat.le_of_ble_eq_true rfl) rfl (fun ls hl => ?_)
      obtain ⟨n, h⟩ := h
      refine zL_41  _ (fun  zm8 H locs ls hW hl h => ?_) n 0 zm3 H locs ls hW (lv_sub hl [1, 2, 0] rfl) h
      · skip
        refine lv_aload_n hx hb dX10_findOrder_79 rfl (lv_at hl 0 rfl) ?_
        refine zg_Main_settling X hW h0 zu_474 dX10_findOrder_80 ?_
        refine lv_aload_n hx hb dX10_findOrder_83 rfl (lv_at hl 0 rfl) ?_
        refine zg_Main_variant X hW h0 zu_468 dX10_findOrder_84 ?_
        refine lv_aload_n hx hb dX10_findOrder_87 rfl (lv_at hl 0 rfl) ?_
        refine zg_Main_variantRing X hW h0 zu_476 dX10_findOrder_88 ?_
        refine zcallv (zrunV (As := [.ref (zad w 6), .ref (zad w 55)]) (rest := []) X hml hl hW h0.2.2.2.2.2.2.2.2.2.1.1 rfl zk_Main_333 (c_Settling_settle h0.2.2.2.2.2.2.2.2.2.1 h0.2.2.2.2.2.1 h0.2.2.2.2.2.2.2.2.2.2.2.1 h) rfl ⟨Nat.le_of_ble_eq_true rfl, Nat.le_of_ble_eq_true rfl⟩ ⟨Nat.le_refl 0, Nat.le_refl 0⟩ rfl (Nat.le_of_ble_eq_true rfl) dX10_findOrder_91) hW (fun zm9 H locs h hW => ?_)
        refine lv_aload_n hx hb dX10_findOrder_94 rfl (lv_at hl 0 rfl) ?_
        refine zg_Main_orders X hW h0 zu_477 dX10_findOrder_95 ?_
        refine zg_Orders_tops X hW h0.2.2.2.2.2.2.2.2.2.2.2.2.1 zu_336 dX10_findOrder_98 ?_
        refine lv_iload_n hx hb dX10_findOrder_101 rfl (lv_at hl 1 rfl) ?_
        refine lv_aload_n hx hb dX10_findOrder_102 rfl (lv_at hl 0 rfl) ?_
        refine zg_Main_variantRing X hW h0 zu_476 dX10_findOrder_103 ?_
        refine zg_Ring_top X hW h0.2.2.2.2.2.2.2.2.2.2.2.1 zu_308 dX10_findOrder_106 ?_
        obtain ⟨g, h⟩ := h
        refine ziast X hW h0.2.2.2.2.2.2.2.2.2.2.2.2.1.2.1 g dX10_findOrder_109 (fun H locs zm11 ezm11 hW => ?_)
        replace h := h zm11 ezm11
        refine lv_aload_n hx hb dX10_findOrder_110 rfl (lv_at hl 0 rfl) ?_
        refine zg_Main_orders X hW h0 zu_477 dX10_findOrder_111 ?_
        refine zg_Orders_bottoms X hW h0.2.2.2.2.2.2.2.2.2.2.2.2.1 zu_338 dX10_findOrder_114 ?_
        refine lv_iload_n hx hb dX10_findOrder_117 rfl (lv_at hl 1 rfl) ?_
        refine lv_aload_n hx hb dX10_findOrder_118 rfl (lv_at hl 0 rfl) ?_
        refine zg_Main_variantRing X hW h0 zu_476 dX10_findOrder_119 ?_
        refine zg_Ring_bottom X hW h0.2.2.2.2.2.2.2.2.2.2.2.1 zu_311 dX10_findOrder_122 ?_
        obtain ⟨g, h⟩ := h
        refine ziast X hW h0.2.2.2.2.2.2.2.2.2.2.2.2.1.2.2.1 g dX10_findOrder_125 (fun H locs zm12 ezm12 hW => ?_)
        replace h := h zm12 ezm12
        exact zretv X hr hlk hW h dX10_findOrder_126
    · replace h := h.2 c
      exact zretv X hr hlk hW h dX10_findOrder_12
  exact zMain s.heap [] ls hW hl
def wp_Main_order (a1 : Int32) (a2 : Int32) (M : zMem) (Q : Int32 → zMem → Prop) : Prop :=
  wp_Main_isOrder a1 M (fun zr2 zm1 => (zr2 = 0 → Q ((-1)) zm1) ∧ (¬ zr2 = 0 → wp_Main_isHalf a2 zm1 (fun zr4 zm3 => (¬ zr4 = 0 → wp_Main_findOrder a1 zm3 (fun zm5 => (¬ a2 = 0 → vp_in a1 120 ∧ Q (zm5 58 (ix a1)) zm5) ∧ (a2 = 0 → vp_in a1 120 ∧ Q (zm5 57 (ix a1)) zm5))) ∧ (zr4 = 0 → Q ((-1)) zm3))))
set_option maxHeartbeats 4000000 in
set_option maxRecDepth 20000 in
theorem c_Main_order {l : Launch} {w : zWd} {a1 : Int32} {a2 : Int32} {M : zMem} {post : Int32 → zMem → Prop} (h0 : zI_Main w) (h : wp_Main_order a1 a2 M post) : zMi l ⟨"HandToHand", "order", "(II)I"⟩ prog_1_method_27_code 3 (Option.some .int) 6 140 w [.ref (zad w 0), .int a1, .int a2] M post := by
  refine zMet (by decide) (Nat.le_of_ble_eq_true rfl) ?_
  intro p e s m below meth c X hr hlk hml hW ls hl
  have hx := X.1
  have hb := X.2.1
  have hl : lv_has ls 3 [(0, .ref (zad w 0)), (1, .int a1), (2, .int a2)] := hl
  unfold wp_Main_order at h
  have zMain : ∀ (H : Heap) (locs : List Loc) (ls : Array Slot), zWo w s.heap M H locs → lv_has ls 3 [(0, .ref (zad w 0)), (1, .int a1), (2, .int a2)] → W p l e (zRm 6 140) s m ([.ref (zad w 0), .int a1, .int a2] : List Value).toArray below meth c H locs 0 0 (MQ below (va_Qi post (zB w) (zA w)) ([.ref (zad w 0), .int a1, .int a2] : List Value).toArray s 0 0 (zA w)) (F0 m 0 ls []) := by
    intro H locs ls hW hl
    refine lv_aload_n hx hb dX10_order_0 rfl (lv_at hl 0 rfl) ?_
    refine lv_iload_n hx hb dX10_order_1 rfl (lv_at hl 1 rfl) ?_
    refine zcalli (zrunV (As := [.int a1]) (rest := []) X hml hl hW h0.1 rfl zk_Main_297 (c_Main_isOrder h0 h) rfl ⟨Nat.le_of_ble_eq_true rfl, Nat.le_of_ble_eq_true rfl⟩ ⟨Nat.le_refl 0, Nat.le_refl 0⟩ rfl (Nat.le_of_ble_eq_true rfl) dX10_order_2) hW (fun zr2 zm1 H locs h hW => ?_)
    refine lv_if_eq (tgt := 15) hx hb dX10_order_5 rfl (fun c => ?_) (fun c => ?_)
    · replace h := h.1 c
      refine lv_iconst hx hb dX10_order_15 zc_im1 ?_
      exact zreti X hr hlk hW h dX10_order_16
    · replace h := h.2 c
      refine lv_iload_n hx hb dX10_order_8 rfl (lv_at hl 2 rfl) ?_
      refine zcalli (zrunS (As := [.int a2]) (rest := []) X hml hl hW zk_Main_278 (c_Main_isHalf  h) rfl ⟨Nat.le_of_ble_eq_true rfl, Nat.le_of_ble_eq_true rfl⟩ ⟨Nat.le_refl 0, Nat.le_refl 0⟩ rfl (Nat.le_of_ble_eq_true rfl) dX10_order_9) hW (fun zr4 zm3 H locs h hW => ?_)
      refine lv_if_ne (tgt := 17) hx hb dX10_order_12 rfl (fun c => ?_) (fun c => ?_)
      · replace h := h.1 c
        refine lv_aload_n hx hb dX10_order_17 rfl (lv_at hl 0 rfl) ?_
        refine lv_iload_n hx hb dX10_order_18 rfl (lv_at hl 1 rfl) ?_
        refine zcallv (zrunV (As := [.int a1]) (rest := []) X hml hl hW h0.1 rfl zk_Main_300 (c_Main_findOrder h0 h) rfl ⟨Nat.le_of_ble_eq_true rfl, Nat.le_of_ble_eq_true rfl⟩ ⟨Nat.le_refl 0, Nat.le_refl 0⟩ rfl (Nat.le_of_ble_eq_true rfl) dX10_order_19) hW (fun zm5 H locs h hW => ?_)
        refine lv_iload_n hx hb dX10_order_22 rfl (lv_at hl 2 rfl) ?_
        refine lv_if_ne (tgt := 38) hx hb dX10_order_23 rfl (fun c => ?_) (fun c => ?_)
        · replace h := h.1 c
          refine lv_aload_n hx hb dX10_order_38 rfl (lv_at hl 0 rfl) ?_
          refine zg_Main_orders X hW h0 zu_477 dX10_order_39 ?_
          refine zg_Orders_bottoms X hW h0.2.2.2.2.2.2.2.2.2.2.2.2.1 zu_338 dX10_order_42 ?_
          refine lv_iload_n hx hb dX10_order_45 rfl (lv_at hl 1 rfl) ?_
          obtain ⟨g, h⟩ := h
          refine ziald X hW h0.2.2.2.2.2.2.2.2.2.2.2.2.1.2.2.1 g dX10_order_46 ?_
          exact zreti X hr hlk hW h dX10_order_47
        · replace h := h.2 c
          refine lv_aload_n hx hb dX10_order_26 rfl (lv_at hl 0 rfl) ?_
          refine zg_Main_orders X hW h0 zu_477 dX10_order_27 ?_
          refine zg_Orders_tops X hW h0.2.2.2.2.2.2.2.2.2.2.2.2.1 zu_336 dX10_order_30 ?_
          refine lv_iload_n hx hb dX10_order_33 rfl (lv_at hl 1 rfl) ?_
          obtain ⟨g, h⟩ := h
          refine ziald X hW h0.2.2.2.2.2.2.2.2.2.2.2.2.1.2.1 g dX10_order_34 ?_
          refine lv_goto (tgt := 47) hx hb dX10_order_35 rfl ?_
          exact zreti X hr hlk hW h dX10_order_47
      · replace h := h.2 c
        refine lv_iconst hx hb dX10_order_15 zc_im1 ?_
        exact zreti X hr hlk hW h dX10_order_16
  exact zMain s.heap [] ls hW hl
def wp_Main_isMore (a1 : Int64) (a2 : Int64) (a3 : Int64) (a4 : Int64) (M : zMem) (Q : Int32 → zMem → Prop) : Prop :=
  ((lg_cmp (a1 * a4) (a3 * a2)) ≤ 0 → Q 0 M) ∧ (¬ (lg_cmp (a1 * a4) (a3 * a2)) ≤ 0 → Q 1 M)
set_option maxHeartbeats 4000000 in
set_option maxRecDepth 20000 in
theorem c_Main_isMore {l : Launch} {w : zWd} {a1 : Int64} {a2 : Int64} {a3 : Int64} {a4 : Int64} {M : zMem} {post : Int32 → zMem → Prop}  (h : wp_Main_isMore a1 a2 a3 a4 M post) : zMi l ⟨"HandToHand", "isMore", "(JJJJ)Z"⟩ prog_1_method_46_code 8 (Option.some .boolean) 0 0 w [.long a1, .long a2, .long a3, .long a4] M post := by
  refine zMet (by decide) (Nat.le_of_ble_eq_true rfl) ?_
  intro p e s m below meth c X hr hlk hml hW ls hl
  have hx := X.1
  have hb := X.2.1
  have hl : lv_has ls 8 [(0, .long a1), (2, .long a2), (4, .long a3), (6, .long a4)] := hl
  unfold wp_Main_isMore at h
  have zMain : ∀ (H : Heap) (locs : List Loc) (ls : Array Slot), zWo w s.heap M H locs → lv_has ls 8 [(0, .long a1), (2, .long a2), (4, .long a3), (6, .long a4)] → W p l e (zRm 0 0) s m ([.long a1, .long a2, .long a3, .long a4] : List Value).toArray below meth c H locs 0 0 (MQ below (va_Qi post (zB w) (zA w)) ([.long a1, .long a2, .long a3, .long a4] : List Value).toArray s 0 0 (zA w)) (F0 m 0 ls []) := by
    intro H locs ls hW hl
    refine lv_lload_n hx hb dX10_isMore_0 rfl (lv_at hl 0 rfl) ?_
    refine lv_lload hx hb dX10_isMore_1 (lv_at hl 3 rfl) ?_
    refine lv_lmul hx hb dX10_isMore_3 ?_
    refine lv_lload hx hb dX10_isMore_4 (lv_at hl 2 rfl) ?_
    refine lv_lload_n hx hb dX10_isMore_6 rfl (lv_at hl 1 rfl) ?_
    refine lv_lmul hx hb dX10_isMore_7 ?_
    refine W.lcmp hx hb dX10_isMore_8 ?_
    refine lv_if_le (tgt := 16) hx hb dX10_isMore_9 rfl (fun c => ?_) (fun c => ?_)
    · replace h := h.1 c
      refine lv_iconst hx hb dX10_isMore_16 zc_i0 ?_
      exact zretz X hr hlk hW rfl h dX10_isMore_17
    · replace h := h.2 c
      refine lv_iconst hx hb dX10_isMore_12 zc_i1 ?_
      refine lv_goto (tgt := 17) hx hb dX10_isMore_13 rfl ?_
      exact zretz X hr hlk hW rfl h dX10_isMore_17
  exact zMain s.heap [] ls hW hl
def wpJ_Main_best_59 (a1 : Int32) (K116 : Int32 → Int32 → zMem → Prop) (J : Int32 → Int32 → Int32 → zMem → Prop) (Q : Int32 → zMem → Prop) (x_2 : Int32) (x_3 : Int32) (x_4 : Int32) (x_5 : Int32)  (M : zMem) : Prop :=
  vp_in x_5 120 ∧ vp_in x_5 120 ∧ vp_in x_2 120 ∧ vp_in x_2 120 ∧ wp_Main_isMore ((M 57 (ix x_5)).toInt64) ((M 58 (ix x_5)).toInt64) ((M 57 (ix x_2)).toInt64) ((M 58 (ix x_2)).toInt64) M (fun zr6 zm5 => (zr6 = 0 → ∀ zx7 : Int32, zx7 = x_5 + 1 → J x_2 x_3 zx7 zm5) ∧ (¬ zr6 = 0 → ∀ zx8 : Int32, zx8 = x_5 + 1 → J x_5 x_3 zx8 zm5))
def wpB_Main_best_30 (a1 : Int32) (x_4 : Int32) (K116 : Int32 → Int32 → zMem → Prop) (Q : Int32 → zMem → Prop) (J : Int32 → Int32 → Int32 → zMem → Prop) (x_2 : Int32) (x_3 : Int32) (x_5 : Int32) (M : zMem) : Prop :=
  (x_4 ≤ x_5 → K116 x_2 x_3 M) ∧ (¬ x_4 ≤ x_5 → wp_Main_findOrder x_5 M (fun zm3 => vp_in x_5 120 ∧ (¬ (zm3 57 (ix x_5)) = 0 → wpJ_Main_best_59 a1 K116 J Q x_2 x_3 x_4 x_5 zm3) ∧ ((zm3 57 (ix x_5)) = 0 → ∀ zx9 : Int32, zx9 = x_3 + 1 → wpJ_Main_best_59 a1 K116 J Q x_2 zx9 x_4 x_5 zm3)))
def wp_Main_best (a1 : Int32) (M : zMem) (Q : Int32 → zMem → Prop) : Prop :=
  (a1 < 0 → Q ((-1)) M) ∧ (¬ a1 < 0 → (a1 ≤ 3 → wp_Main_numberOfOrders (M 1 1) M (fun zr2 zm1 => ∃ n : Nat, zlp3 (wpB_Main_best_30 a1 zr2 (fun (zx11 : Int32) (zx12 : Int32) (zm10 : zMem) => ∀ zx13 : Int32, zx13 = a1 → (zx13 = 0 → Q zx11 zm10) ∧ (zx13 = 1 → vp_in zx11 120 ∧ Q (zm10 57 (ix zx11)) zm10) ∧ (zx13 = 2 → vp_in zx11 120 ∧ Q (zm10 58 (ix zx11)) zm10) ∧ (¬ zx13 = 0 → ¬ zx13 = 1 → ¬ zx13 = 2 → Q zx12 zm10)) Q) n 0 0 0 zm1)) ∧ (¬ a1 ≤ 3 → Q ((-1)) M))
set_option maxHeartbeats 4000000 in
set_option maxRecDepth 20000 in
theorem c_Main_best {l : Launch} {w : zWd} {a1 : Int32} {M : zMem} {post : Int32 → zMem → Prop} (h0 : zI_Main w) (h : wp_Main_best a1 M post) : zMi l ⟨"HandToHand", "best", "(I)I"⟩ prog_1_method_28_code 6 (Option.some .int) 6 140 w [.ref (zad w 0), .int a1] M post := by
  refine zMet (by decide) (Nat.le_of_ble_eq_true rfl) ?_
  intro p e s m below meth c X hr hlk hml hW ls hl
  have hx := X.1
  have hb := X.2.1
  have hl : lv_has ls 6 [(0, .ref (zad w 0)), (1, .int a1)] := hl
  have zJ_59 : ∀ (x_2 : Int32) (x_3 : Int32) (x_4 : Int32) (x_5 : Int32) (K116 : Int32 → Int32 → zMem → Prop) (zK116 : ∀ (y_2 : Int32) (y_3 : Int32) (M : zMem) (H : Heap) (locs : List Loc) (ls : Array Slot), zWo w s.heap M H locs → lv_has ls 6 [(0, .ref (zad w 0)), (1, .int a1), (2, .int y_2), (3, .int y_3)] → K116 y_2 y_3 M → W p l e (zRm 6 140) s m ([.ref (zad w 0), .int a1] : List Value).toArray below meth c H locs 0 0 (MQ below (va_Qi post (zB w) (zA w)) ([.ref (zad w 0), .int a1] : List Value).toArray s 0 0 (zA w)) (F0 m 116 ls [])) (J : Int32 → Int32 → Int32 → zMem → Prop) (zJ : ∀ (y_2 : Int32) (y_3 : Int32) (y_5 : Int32) (M : zMem) (H : Heap) (locs : List Loc) (ls : Array Slot), zWo w s.heap M H locs → lv_has ls 6 [(0, .ref (zad w 0)), (1, .int a1), (2, .int y_2), (3, .int y_3), (4, .int x_4), (5, .int y_5)] → J y_2 y_3 y_5 M → W p l e (zRm 6 140) s m ([.ref (zad w 0), .int a1] : List Value).toArray below meth c H locs 0 0 (MQ below (va_Qi post (zB w) (zA w)) ([.ref (zad w 0), .int a1] : List Value).toArray s 0 0 (zA w)) (F0 m 30 ls [])) (M : zMem) (H : Heap) (locs : List Loc) (ls : Array Slot), zWo w s.heap M H locs → lv_has ls 6 [(0, .ref (zad w 0)), (1, .int a1), (2, .int x_2), (3, .int x_3), (4, .int x_4), (5, .int x_5)] → wpJ_Main_best_59 a1 K116 J post x_2 x_3 x_4 x_5 M → W p l e (zRm 6 140) s m ([.ref (zad w 0), .int a1] : List Value).toArray below meth c H locs 0 0 (MQ below (va_Qi post (zB w) (zA w)) ([.ref (zad w 0), .int a1] : List Value).toArray s 0 0 (zA w)) (F0 m 59 ls []) := by
    intro x_2 x_3 x_4 x_5 K116 zK116 J zJ M H locs ls hW hl h
    unfold wpJ_Main_best_59 at h
    refine lv_aload_n hx hb dX10_best_59 rfl (lv_at hl 0 rfl) ?_
    refine zg_Main_orders X hW h0 zu_477 dX10_best_60 ?_
    refine zg_Orders_tops X hW h0.2.2.2.2.2.2.2.2.2.2.2.2.1 zu_336 dX10_best_63 ?_
    refine lv_iload hx hb dX10_best_66 (lv_at hl 5 rfl) ?_
    obtain ⟨g, h⟩ := h
    refine ziald X hW h0.2.2.2.2.2.2.2.2.2.2.2.2.1.2.1 g dX10_best_68 ?_
    refine lv_i2l hx hb dX10_best_69 rfl ?_
    refine lv_aload_n hx hb dX10_best_70 rfl (lv_at hl 0 rfl) ?_
    refine zg_Main_orders X hW h0 zu_477 dX10_best_71 ?_
    refine zg_Orders_bottoms X hW h0.2.2.2.2.2.2.2.2.2.2.2.2.1 zu_338 dX10_best_74 ?_
    refine lv_iload hx hb dX10_best_77 (lv_at hl 5 rfl) ?_
    obtain ⟨g, h⟩ := h
    refine ziald X hW h0.2.2.2.2.2.2.2.2.2.2.2.2.1.2.2.1 g dX10_best_79 ?_
    refine lv_i2l hx hb dX10_best_80 rfl ?_
    refine lv_aload_n hx hb dX10_best_81 rfl (lv_at hl 0 rfl) ?_
    refine zg_Main_orders X hW h0 zu_477 dX10_best_82 ?_
    refine zg_Orders_tops X hW h0.2.2.2.2.2.2.2.2.2.2.2.2.1 zu_336 dX10_best_85 ?_
    refine lv_iload_n hx hb dX10_best_88 rfl (lv_at hl 2 rfl) ?_
    obtain ⟨g, h⟩ := h
    refine ziald X hW h0.2.2.2.2.2.2.2.2.2.2.2.2.1.2.1 g dX10_best_89 ?_
    refine lv_i2l hx hb dX10_best_90 rfl ?_
    refine lv_aload_n hx hb dX10_best_91 rfl (lv_at hl 0 rfl) ?_
    refine zg_Main_orders X hW h0 zu_477 dX10_best_92 ?_
    refine zg_Orders_bottoms X hW h0.2.2.2.2.2.2.2.2.2.2.2.2.1 zu_338 dX10_best_95 ?_
    refine lv_iload_n hx hb dX10_best_98 rfl (lv_at hl 2 rfl) ?_
    obtain ⟨g, h⟩ := h
    refine ziald X hW h0.2.2.2.2.2.2.2.2.2.2.2.2.1.2.2.1 g dX10_best_99 ?_
    refine lv_i2l hx hb dX10_best_100 rfl ?_
    refine zcalli (zrunS (As := [.long ((M 57 (ix x_5)).toInt64), .long ((M 58 (ix x_5)).toInt64), .long ((M 57 (ix x_2)).toInt64), .long ((M 58 (ix x_2)).toInt64)]) (rest := []) X hml hl hW zk_Main_313 (c_Main_isMore  h) rfl ⟨Nat.le_of_ble_eq_true rfl, Nat.le_of_ble_eq_true rfl⟩ ⟨Nat.le_refl 0, Nat.le_refl 0⟩ rfl (Nat.le_of_ble_eq_true rfl) dX10_best_101) hW (fun zr6 zm5 H locs h hW => ?_)
    refine lv_if_eq (tgt := 110) hx hb dX10_best_104 rfl (fun c => ?_) (fun c => ?_)
    · replace h := h.1 c
      obtain ⟨zx7, ezx7⟩ : ∃ y : Int32, y = x_5 + 1 := ⟨_, rfl⟩
      replace h := h zx7 ezx7
      refine lv_iinc (v := zx7) (lv' := [(5, .int zx7), (0, .ref (zad w 0)), (1, .int a1), (2, .int x_2), (3, .int x_3), (4, .int x_4)]) hx hb dX10_best_110 hl (k := 5) rfl (by rw [ezx7, zc_i1]) (Nat.le_of_ble_eq_true rfl) rfl (fun ls hl => ?_)
      refine lv_goto (tgt := 30) hx hb dX10_best_113 rfl ?_
      exact zJ x_2 x_3 zx7 zm5 H locs ls hW (lv_sub hl [1, 2, 3, 4, 5, 0] rfl) h
    · replace h := h.2 c
      refine lv_iload hx hb dX10_best_107 (lv_at hl 5 rfl) ?_
      refine lv_istore_n (lv' := [(2, .int x_5), (0, .ref (zad w 0)), (1, .int a1), (3, .int x_3), (4, .int x_4), (5, .int x_5)]) hx hb dX10_best_109 rfl hl (Nat.le_of_ble_eq_true rfl) rfl (fun ls hl => ?_)
      obtain ⟨zx8, ezx8⟩ : ∃ y : Int32, y = x_5 + 1 := ⟨_, rfl⟩
      replace h := h zx8 ezx8
      refine lv_iinc (v := zx8) (lv' := [(5, .int zx8), (2, .int x_5), (0, .ref (zad w 0)), (1, .int a1), (3, .int x_3), (4, .int x_4)]) hx hb dX10_best_110 hl (k := 5) rfl (by rw [ezx8, zc_i1]) (Nat.le_of_ble_eq_true rfl) rfl (fun ls hl => ?_)
      refine lv_goto (tgt := 30) hx hb dX10_best_113 rfl ?_
      exact zJ x_5 x_3 zx8 zm5 H locs ls hW (lv_sub hl [2, 3, 1, 4, 5, 0] rfl) h
  have zL_30 : ∀ (x_4 : Int32) (K116 : Int32 → Int32 → zMem → Prop) (zK116 : ∀ (y_2 : Int32) (y_3 : Int32) (M : zMem) (H : Heap) (locs : List Loc) (ls : Array Slot), zWo w s.heap M H locs → lv_has ls 6 [(0, .ref (zad w 0)), (1, .int a1), (2, .int y_2), (3, .int y_3)] → K116 y_2 y_3 M → W p l e (zRm 6 140) s m ([.ref (zad w 0), .int a1] : List Value).toArray below meth c H locs 0 0 (MQ below (va_Qi post (zB w) (zA w)) ([.ref (zad w 0), .int a1] : List Value).toArray s 0 0 (zA w)) (F0 m 116 ls [])), ∀ (n : Nat) (x_2 : Int32) (x_3 : Int32) (x_5 : Int32) (M : zMem) (H : Heap) (locs : List Loc) (ls : Array Slot), zWo w s.heap M H locs → lv_has ls 6 [(0, .ref (zad w 0)), (1, .int a1), (2, .int x_2), (3, .int x_3), (4, .int x_4), (5, .int x_5)] → zlp3 (wpB_Main_best_30 a1 x_4 K116 post) n x_2 x_3 x_5 M → W p l e (zRm 6 140) s m ([.ref (zad w 0), .int a1] : List Value).toArray below meth c H locs 0 0 (MQ below (va_Qi post (zB w) (zA w)) ([.ref (zad w 0), .int a1] : List Value).toArray s 0 0 (zA w)) (F0 m 30 ls []) := by
    intro x_4 K116 zK116 n
    induction n with
    | zero => intro x_2 x_3 x_5 M H locs ls hW hl h; exact h.elim
    | succ n zJ =>
      intro x_2 x_3 x_5 M H locs ls hW hl h
      have h : wpB_Main_best_30 a1 x_4 K116 post (zlp3 (wpB_Main_best_30 a1 x_4 K116 post) n) x_2 x_3 x_5 M := h
      unfold wpB_Main_best_30 at h
      refine lv_iload hx hb dX10_best_30 (lv_at hl 5 rfl) ?_
      refine lv_iload hx hb dX10_best_32 (lv_at hl 4 rfl) ?_
      refine lv_icmp_ge (tgt := 116) hx hb dX10_best_34 rfl (fun c => ?_) (fun c => ?_)
      · replace h := h.1 c
        exact zK116 x_2 x_3 M H locs ls hW (lv_sub hl [0, 1, 2, 3] rfl) h
      · replace h := h.2 c
        refine lv_aload_n hx hb dX10_best_37 rfl (lv_at hl 0 rfl) ?_
        refine lv_iload hx hb dX10_best_38 (lv_at hl 5 rfl) ?_
        refine zcallv (zrunV (As := [.int x_5]) (rest := []) X hml hl hW h0.1 rfl zk_Main_300 (c_Main_findOrder h0 h) rfl ⟨Nat.le_of_ble_eq_true rfl, Nat.le_of_ble_eq_true rfl⟩ ⟨Nat.le_refl 0, Nat.le_refl 0⟩ rfl (Nat.le_of_ble_eq_true rfl) dX10_best_40) hW (fun zm3 H locs h hW => ?_)
        refine lv_aload_n hx hb dX10_best_43 rfl (lv_at hl 0 rfl) ?_
        refine zg_Main_orders X hW h0 zu_477 dX10_best_44 ?_
        refine zg_Orders_tops X hW h0.2.2.2.2.2.2.2.2.2.2.2.2.1 zu_336 dX10_best_47 ?_
        refine lv_iload hx hb dX10_best_50 (lv_at hl 5 rfl) ?_
        obtain ⟨g, h⟩ := h
        refine ziald X hW h0.2.2.2.2.2.2.2.2.2.2.2.2.1.2.1 g dX10_best_52 ?_
        refine lv_if_ne (tgt := 59) hx hb dX10_best_53 rfl (fun c => ?_) (fun c => ?_)
        · replace h := h.1 c
          exact zJ_59 x_2 x_3 x_4 x_5 _ zK116 _ zJ zm3 H locs ls hW (lv_sub hl [0, 1, 2, 3, 4, 5] rfl) h
        · replace h := h.2 c
          obtain ⟨zx9, ezx9⟩ : ∃ y : Int32, y = x_3 + 1 := ⟨_, rfl⟩
          replace h := h zx9 ezx9
          refine lv_iinc (v := zx9) (lv' := [(3, .int zx9), (0, .ref (zad w 0)), (1, .int a1), (2, .int x_2), (4, .int x_4), (5, .int x_5)]) hx hb dX10_best_56 hl (k := 3) rfl (by rw [ezx9, zc_i1]) (Nat.le_of_ble_eq_true rfl) rfl (fun ls hl => ?_)
          exact zJ_59 x_2 zx9 x_4 x_5 _ zK116 _ zJ zm3 H locs ls hW (lv_sub hl [1, 2, 3, 0, 4, 5] rfl) h
  unfold wp_Main_best at h
  have zMain : ∀ (H : Heap) (locs : List Loc) (ls : Array Slot), zWo w s.heap M H locs → lv_has ls 6 [(0, .ref (zad w 0)), (1, .int a1)] → W p l e (zRm 6 140) s m ([.ref (zad w 0), .int a1] : List Value).toArray below meth c H locs 0 0 (MQ below (va_Qi post (zB w) (zA w)) ([.ref (zad w 0), .int a1] : List Value).toArray s 0 0 (zA w)) (F0 m 0 ls []) := by
    intro H locs ls hW hl
    refine lv_iload_n hx hb dX10_best_0 rfl (lv_at hl 1 rfl) ?_
    refine lv_if_lt (tgt := 9) hx hb dX10_best_1 rfl (fun c => ?_) (fun c => ?_)
    · replace h := h.1 c
      refine lv_iconst hx hb dX10_best_9 zc_im1 ?_
      exact zreti X hr hlk hW h dX10_best_10
    · replace h := h.2 c
      refine lv_iload_n hx hb dX10_best_4 rfl (lv_at hl 1 rfl) ?_
      refine lv_iconst hx hb dX10_best_5 zc_i3 ?_
      refine lv_icmp_le (tgt := 11) hx hb dX10_best_6 rfl (fun c => ?_) (fun c => ?_)
      · replace h := h.1 c
        refine lv_iconst hx hb dX10_best_11 zc_i0 ?_
        refine lv_istore_n (lv' := [(2, .int 0), (0, .ref (zad w 0)), (1, .int a1)]) hx hb dX10_best_12 rfl hl (Nat.le_of_ble_eq_true rfl) rfl (fun ls hl => ?_)
        refine lv_iconst hx hb dX10_best_13 zc_i0 ?_
        refine lv_istore_n (lv' := [(3, .int 0), (2, .int 0), (0, .ref (zad w 0)), (1, .int a1)]) hx hb dX10_best_14 rfl hl (Nat.le_of_ble_eq_true rfl) rfl (fun ls hl => ?_)
        refine lv_aload_n hx hb dX10_best_15 rfl (lv_at hl 2 rfl) ?_
        refine zg_Main_told X hW h0 zu_467 dX10_best_16 ?_
        refine zg_Told_hands X hW h0.2.2.2.2.1 zu_41 dX10_best_19 ?_
        refine zcalli (zrunS (As := [.int (M 1 1)]) (rest := []) X hml hl hW zk_Main_309 (c_Main_numberOfOrders  h) rfl ⟨Nat.le_of_ble_eq_true rfl, Nat.le_of_ble_eq_true rfl⟩ ⟨Nat.le_refl 0, Nat.le_refl 0⟩ rfl (Nat.le_of_ble_eq_true rfl) dX10_best_22) hW (fun zr2 zm1 H locs h hW => ?_)
        refine lv_istore (lv' := [(4, .int zr2), (3, .int 0), (2, .int 0), (0, .ref (zad w 0)), (1, .int a1)]) hx hb dX10_best_25 hl (Nat.le_of_ble_eq_true rfl) rfl (fun ls hl => ?_)
        refine lv_iconst hx hb dX10_best_27 zc_i0 ?_
        refine lv_istore (lv' := [(5, .int 0), (4, .int zr2), (3, .int 0), (2, .int 0), (0, .ref (zad w 0)), (1, .int a1)]) hx hb dX10_best_28 hl (Nat.le_of_ble_eq_true rfl) rfl (fun ls hl => ?_)
        obtain ⟨n, h⟩ := h
        refine zL_30 zr2 _ (fun zx11 zx12 zm10 H locs ls hW hl h => ?_) n 0 0 0 zm1 H locs ls hW (lv_sub hl [4, 5, 3, 2, 1, 0] rfl) h
        · skip
          refine lv_iload_n hx hb dX10_best_116 rfl (lv_at hl 1 rfl) ?_
          refine lv_topi (fun zx13 ezx13 => ?_)
          replace h := h zx13 ezx13
          by_cases c0 : zx13 = 0
          · replace h := h.1 c0
            refine lv_tableIn (off := 27) (tgt := 144) hx hb dX10_best_117 (by rw [c0]; decide) (by rw [c0]; decide) (by rw [c0]; rfl) rfl ?_
            refine lv_iload_n hx hb dX10_best_144 rfl (lv_at hl 2 rfl) ?_
            exact zreti X hr hlk hW h dX10_best_145
          replace h := h.2
          by_cases c1 : zx13 = 1
          · replace h := h.1 c1
            refine lv_tableIn (off := 29) (tgt := 146) hx hb dX10_best_117 (by rw [c1]; decide) (by rw [c1]; decide) (by rw [c1]; rfl) rfl ?_
            refine lv_aload_n hx hb dX10_best_146 rfl (lv_at hl 0 rfl) ?_
            refine zg_Main_orders X hW h0 zu_477 dX10_best_147 ?_
            refine zg_Orders_tops X hW h0.2.2.2.2.2.2.2.2.2.2.2.2.1 zu_336 dX10_best_150 ?_
            refine lv_iload_n hx hb dX10_best_153 rfl (lv_at hl 2 rfl) ?_
            obtain ⟨g, h⟩ := h
            refine ziald X hW h0.2.2.2.2.2.2.2.2.2.2.2.2.1.2.1 g dX10_best_154 ?_
            exact zreti X hr hlk hW h dX10_best_155
          replace h := h.2
          by_cases c2 : zx13 = 2
          · replace h := h.1 c2
            refine lv_tableIn (off := 39) (tgt := 156) hx hb dX10_best_117 (by rw [c2]; decide) (by rw [c2]; decide) (by rw [c2]; rfl) rfl ?_
            refine lv_aload_n hx hb dX10_best_156 rfl (lv_at hl 0 rfl) ?_
            refine zg_Main_orders X hW h0 zu_477 dX10_best_157 ?_
            refine zg_Orders_bottoms X hW h0.2.2.2.2.2.2.2.2.2.2.2.2.1 zu_338 dX10_best_160 ?_
            refine lv_iload_n hx hb dX10_best_163 rfl (lv_at hl 2 rfl) ?_
            obtain ⟨g, h⟩ := h
            refine ziald X hW h0.2.2.2.2.2.2.2.2.2.2.2.2.1.2.2.1 g dX10_best_164 ?_
            exact zreti X hr hlk hW h dX10_best_165
          replace h := h.2
          replace h := h c0 c1 c2
          refine lv_tableOut (tgt := 166) hx hb dX10_best_117 (zsw 2 (Nat.le_of_ble_eq_true rfl) (fun j hj => ?_)) rfl ?_
          · rcases (show j = 0 ∨ j = 1 ∨ j = 2 by omega) with rfl | rfl | rfl
            · exact c0
            · exact c1
            · exact c2
          refine lv_iload_n hx hb dX10_best_166 rfl (lv_at hl 3 rfl) ?_
          exact zreti X hr hlk hW h dX10_best_167
      · replace h := h.2 c
        refine lv_iconst hx hb dX10_best_9 zc_im1 ?_
        exact zreti X hr hlk hW h dX10_best_10
  exact zMain s.heap [] ls hW hl
def wp_Main_stands (a1 : Int32) (a2 : Int32) (M : zMem) (Q : Int32 → zMem → Prop) : Prop :=
  wp_Main_isOrder a1 M (fun zr2 zm1 => (zr2 = 0 → Q ((-1)) zm1) ∧ (¬ zr2 = 0 → wp_Main_isHand a2 zm1 (fun zr4 zm3 => (¬ zr4 = 0 → wp_Orders_standAs 56 a1 (zm3 1 1) zm3 (fun zm5 => vp_in a2 5 ∧ Q (zm5 59 (ix a2)) zm5)) ∧ (zr4 = 0 → Q ((-1)) zm3))))
set_option maxHeartbeats 4000000 in
set_option maxRecDepth 20000 in
theorem c_Main_stands {l : Launch} {w : zWd} {a1 : Int32} {a2 : Int32} {M : zMem} {post : Int32 → zMem → Prop} (h0 : zI_Main w) (h : wp_Main_stands a1 a2 M post) : zMi l ⟨"HandToHand", "stands", "(II)I"⟩ prog_1_method_29_code 3 (Option.some .int) 2 53 w [.ref (zad w 0), .int a1, .int a2] M post := by
  refine zMet (by decide) (Nat.le_of_ble_eq_true rfl) ?_
  intro p e s m below meth c X hr hlk hml hW ls hl
  have hx := X.1
  have hb := X.2.1
  have hl : lv_has ls 3 [(0, .ref (zad w 0)), (1, .int a1), (2, .int a2)] := hl
  unfold wp_Main_stands at h
  have zMain : ∀ (H : Heap) (locs : List Loc) (ls : Array Slot), zWo w s.heap M H locs → lv_has ls 3 [(0, .ref (zad w 0)), (1, .int a1), (2, .int a2)] → W p l e (zRm 2 53) s m ([.ref (zad w 0), .int a1, .int a2] : List Value).toArray below meth c H locs 0 0 (MQ below (va_Qi post (zB w) (zA w)) ([.ref (zad w 0), .int a1, .int a2] : List Value).toArray s 0 0 (zA w)) (F0 m 0 ls []) := by
    intro H locs ls hW hl
    refine lv_aload_n hx hb dX10_stands_0 rfl (lv_at hl 0 rfl) ?_
    refine lv_iload_n hx hb dX10_stands_1 rfl (lv_at hl 1 rfl) ?_
    refine zcalli (zrunV (As := [.int a1]) (rest := []) X hml hl hW h0.1 rfl zk_Main_297 (c_Main_isOrder h0 h) rfl ⟨Nat.le_of_ble_eq_true rfl, Nat.le_of_ble_eq_true rfl⟩ ⟨Nat.le_refl 0, Nat.le_refl 0⟩ rfl (Nat.le_of_ble_eq_true rfl) dX10_stands_2) hW (fun zr2 zm1 H locs h hW => ?_)
    refine lv_if_eq (tgt := 16) hx hb dX10_stands_5 rfl (fun c => ?_) (fun c => ?_)
    · replace h := h.1 c
      refine lv_iconst hx hb dX10_stands_16 zc_im1 ?_
      exact zreti X hr hlk hW h dX10_stands_17
    · replace h := h.2 c
      refine lv_aload_n hx hb dX10_stands_8 rfl (lv_at hl 0 rfl) ?_
      refine lv_iload_n hx hb dX10_stands_9 rfl (lv_at hl 2 rfl) ?_
      refine zcalli (zrunV (As := [.int a2]) (rest := []) X hml hl hW h0.1 rfl zk_Main_165 (c_Main_isHand h0 h) rfl ⟨Nat.le_of_ble_eq_true rfl, Nat.le_of_ble_eq_true rfl⟩ ⟨Nat.le_refl 0, Nat.le_refl 0⟩ rfl (Nat.le_of_ble_eq_true rfl) dX10_stands_10) hW (fun zr4 zm3 H locs h hW => ?_)
      refine lv_if_ne (tgt := 18) hx hb dX10_stands_13 rfl (fun c => ?_) (fun c => ?_)
      · replace h := h.1 c
        refine lv_aload_n hx hb dX10_stands_18 rfl (lv_at hl 0 rfl) ?_
        refine zg_Main_orders X hW h0 zu_477 dX10_stands_19 ?_
        refine lv_iload_n hx hb dX10_stands_22 rfl (lv_at hl 1 rfl) ?_
        refine lv_aload_n hx hb dX10_stands_23 rfl (lv_at hl 0 rfl) ?_
        refine zg_Main_told X hW h0 zu_467 dX10_stands_24 ?_
        refine zg_Told_hands X hW h0.2.2.2.2.1 zu_41 dX10_stands_27 ?_
        refine zcallv (zrunV (As := [.int a1, .int (zm3 1 1)]) (rest := []) X hml hl hW h0.2.2.2.2.2.2.2.2.2.2.2.2.1.1 rfl zk_Main_317 (c_Orders_standAs h0.2.2.2.2.2.2.2.2.2.2.2.2.1 h) rfl ⟨Nat.le_of_ble_eq_true rfl, Nat.le_of_ble_eq_true rfl⟩ ⟨Nat.le_refl 0, Nat.le_refl 0⟩ rfl (Nat.le_of_ble_eq_true rfl) dX10_stands_30) hW (fun zm5 H locs h hW => ?_)
        refine lv_aload_n hx hb dX10_stands_33 rfl (lv_at hl 0 rfl) ?_
        refine zg_Main_orders X hW h0 zu_477 dX10_stands_34 ?_
        refine zg_Orders_standing X hW h0.2.2.2.2.2.2.2.2.2.2.2.2.1 zu_340 dX10_stands_37 ?_
        refine lv_iload_n hx hb dX10_stands_40 rfl (lv_at hl 2 rfl) ?_
        obtain ⟨g, h⟩ := h
        refine ziald X hW h0.2.2.2.2.2.2.2.2.2.2.2.2.1.2.2.2 g dX10_stands_41 ?_
        exact zreti X hr hlk hW h dX10_stands_42
      · replace h := h.2 c
        refine lv_iconst hx hb dX10_stands_16 zc_im1 ?_
        exact zreti X hr hlk hW h dX10_stands_17
  exact zMain s.heap [] ls hW hl
def wpB_Main_findParts_56   (K87 : zMem → Prop) (Q : zMem → Prop) (J : Int32 → zMem → Prop) (x_1 : Int32) (M : zMem) : Prop :=
  (((M 1 1) - 1) ≤ x_1 → K87 M) ∧ (¬ ((M 1 1) - 1) ≤ x_1 → vp_in x_1 5 ∧ ∀ zm7 : zMem, zm7 = zup M 10 (ix x_1) (x_1 + 1) → ∀ zx8 : Int32, zx8 = x_1 + 1 → J zx8 zm7)
def wpB_Main_findParts_91    (Q : zMem → Prop) (J : Int32 → Int32 → zMem → Prop) (x_1 : Int32) (x_2 : Int32) (M : zMem) : Prop :=
  (1000000 ≤ x_2 → Q M) ∧ (¬ 1000000 ≤ x_2 → (x_1 = 0 → Q M) ∧ (¬ x_1 = 0 → wp_Settling_settle 41 6 55 M (fun zm10 => wp_Main_isMore ((zm10 55 6).toInt64) ((zm10 55 7).toInt64) ((zm10 60 1).toInt64) ((zm10 60 2).toInt64) zm10 (fun zr13 zm12 => (zr13 = 0 → wp_Told_moveEnds 6 zm12 (fun zr15 zm14 => ∀ zx16 : Int32, zx16 = x_2 + 1 → J zr15 zx16 zm14)) ∧ (¬ zr13 = 0 → wp_Parts_takeFrom 60 6 55 zm12 (fun zm17 => wp_Told_moveEnds 6 zm17 (fun zr20 zm19 => ∀ zx21 : Int32, zx21 = x_2 + 1 → J zr20 zx21 zm19)))))))
def wp_Main_findParts  (M : zMem) (Q : zMem → Prop) : Prop :=
  ((M 60 0) = 0 → ∀ zm1 : zMem, zm1 = zup M 60 0 1 → ∀ zm2 : zMem, zm2 = zup zm1 60 1 ((-1)) → ∀ zm3 : zMem, zm3 = zup zm2 60 2 1 → wp_Told_copyFrom 6 1 zm3 (fun zm4 => ∀ zm6 : zMem, zm6 = zup zm4 6 4 2 → ∃ n : Nat, zlp1 (wpB_Main_findParts_56   (fun (zm9 : zMem) => ∃ n : Nat, zlp2 (wpB_Main_findParts_91    Q) n 1 0 zm9) Q) n 0 zm6)) ∧ (¬ (M 60 0) = 0 → Q M)
set_option maxHeartbeats 4000000 in
set_option maxRecDepth 20000 in
theorem c_Main_findParts {l : Launch} {w : zWd} {M : zMem} {post : zMem → Prop} (h0 : zI_Main w) (h : wp_Main_findParts  M post) : zMv l ⟨"HandToHand", "findParts", "()V"⟩ prog_1_method_51_code 3 none 5 118 w [.ref (zad w 0)] M post := by
  refine zMet (by decide) (Nat.le_of_ble_eq_true rfl) ?_
  intro p e s m below meth c X hr hlk hml hW ls hl
  have hx := X.1
  have hb := X.2.1
  have hl : lv_has ls 3 [(0, .ref (zad w 0))] := hl
  have zL_56 : ∀ (K87 : zMem → Prop) (zK87 : ∀ (M : zMem) (H : Heap) (locs : List Loc) (ls : Array Slot), zWo w s.heap M H locs → lv_has ls 3 [(0, .ref (zad w 0))] → K87 M → W p l e (zRm 5 118) s m ([.ref (zad w 0)] : List Value).toArray below meth c H locs 0 0 (MQ below (va_Qv post (zB w) (zA w)) ([.ref (zad w 0)] : List Value).toArray s 0 0 (zA w)) (F0 m 87 ls [])), ∀ (n : Nat) (x_1 : Int32) (M : zMem) (H : Heap) (locs : List Loc) (ls : Array Slot), zWo w s.heap M H locs → lv_has ls 3 [(0, .ref (zad w 0)), (1, .int x_1)] → zlp1 (wpB_Main_findParts_56   K87 post) n x_1 M → W p l e (zRm 5 118) s m ([.ref (zad w 0)] : List Value).toArray below meth c H locs 0 0 (MQ below (va_Qv post (zB w) (zA w)) ([.ref (zad w 0)] : List Value).toArray s 0 0 (zA w)) (F0 m 56 ls []) := by
    intro K87 zK87 n
    induction n with
    | zero => intro x_1 M H locs ls hW hl h; exact h.elim
    | succ n zJ =>
      intro x_1 M H locs ls hW hl h
      have h : wpB_Main_findParts_56   K87 post (zlp1 (wpB_Main_findParts_56   K87 post) n) x_1 M := h
      unfold wpB_Main_findParts_56 at h
      refine lv_iload_n hx hb dX10_findParts_56 rfl (lv_at hl 1 rfl) ?_
      refine lv_aload_n hx hb dX10_findParts_57 rfl (lv_at hl 0 rfl) ?_
      refine zg_Main_told X hW h0 zu_467 dX10_findParts_58 ?_
      refine zg_Told_hands X hW h0.2.2.2.2.1 zu_41 dX10_findParts_61 ?_
      refine lv_iconst hx hb dX10_findParts_64 zc_i1 ?_
      refine lv_isub hx hb dX10_findParts_65 ?_
      refine lv_icmp_ge (tgt := 87) hx hb dX10_findParts_66 rfl (fun c => ?_) (fun c => ?_)
      · replace h := h.1 c
        exact zK87 M H locs ls hW (lv_sub hl [0] rfl) h
      · replace h := h.2 c
        refine lv_aload_n hx hb dX10_findParts_69 rfl (lv_at hl 0 rfl) ?_
        refine zg_Main_variant X hW h0 zu_468 dX10_findParts_70 ?_
        refine zg_Told_ends X hW h0.2.2.2.2.2.1 zu_70 dX10_findParts_73 ?_
        refine lv_iload_n hx hb dX10_findParts_76 rfl (lv_at hl 1 rfl) ?_
        refine lv_iload_n hx hb dX10_findParts_77 rfl (lv_at hl 1 rfl) ?_
        refine lv_iconst hx hb dX10_findParts_78 zc_i1 ?_
        refine lv_iadd hx hb dX10_findParts_79 ?_
        obtain ⟨g, h⟩ := h
        refine ziast X hW h0.2.2.2.2.2.1.2.2.2.2 g dX10_findParts_80 (fun H locs zm7 ezm7 hW => ?_)
        replace h := h zm7 ezm7
        obtain ⟨zx8, ezx8⟩ : ∃ y : Int32, y = x_1 + 1 := ⟨_, rfl⟩
        replace h := h zx8 ezx8
        refine lv_iinc (v := zx8) (lv' := [(1, .int zx8), (0, .ref (zad w 0))]) hx hb dX10_findParts_81 hl (k := 1) rfl (by rw [ezx8, zc_i1]) (Nat.le_of_ble_eq_true rfl) rfl (fun ls hl => ?_)
        refine lv_goto (tgt := 56) hx hb dX10_findParts_84 rfl ?_
        exact zJ zx8 zm7 H locs ls hW (lv_sub hl [1, 0] rfl) h
  have zL_91 :  ∀ (n : Nat) (x_1 : Int32) (x_2 : Int32) (M : zMem) (H : Heap) (locs : List Loc) (ls : Array Slot), zWo w s.heap M H locs → lv_has ls 3 [(0, .ref (zad w 0)), (1, .int x_1), (2, .int x_2)] → zlp2 (wpB_Main_findParts_91    post) n x_1 x_2 M → W p l e (zRm 5 118) s m ([.ref (zad w 0)] : List Value).toArray below meth c H locs 0 0 (MQ below (va_Qv post (zB w) (zA w)) ([.ref (zad w 0)] : List Value).toArray s 0 0 (zA w)) (F0 m 91 ls []) := by
    intro n
    induction n with
    | zero => intro x_1 x_2 M H locs ls hW hl h; exact h.elim
    | succ n zJ =>
      intro x_1 x_2 M H locs ls hW hl h
      have h : wpB_Main_findParts_91    post (zlp2 (wpB_Main_findParts_91    post) n) x_1 x_2 M := h
      unfold wpB_Main_findParts_91 at h
      refine lv_iload_n hx hb dX10_findParts_91 rfl (lv_at hl 2 rfl) ?_
      refine lv_ldcw hx hb X.2.2.1 (X.2.2.2.1 _ zu_871) dX10_findParts_92 ?_
      refine lv_icmp_ge (tgt := 184) hx hb dX10_findParts_95 rfl (fun c => ?_) (fun c => ?_)
      · replace h := h.1 c
        exact zretv X hr hlk hW h dX10_findParts_184
      · replace h := h.2 c
        refine lv_iload_n hx hb dX10_findParts_98 rfl (lv_at hl 1 rfl) ?_
        refine lv_if_eq (tgt := 184) hx hb dX10_findParts_99 rfl (fun c => ?_) (fun c => ?_)
        · replace h := h.1 c
          exact zretv X hr hlk hW h dX10_findParts_184
        · replace h := h.2 c
          refine lv_aload_n hx hb dX10_findParts_102 rfl (lv_at hl 0 rfl) ?_
          refine zg_Main_settling X hW h0 zu_474 dX10_findParts_103 ?_
          refine lv_aload_n hx hb dX10_findParts_106 rfl (lv_at hl 0 rfl) ?_
          refine zg_Main_variant X hW h0 zu_468 dX10_findParts_107 ?_
          refine lv_aload_n hx hb dX10_findParts_110 rfl (lv_at hl 0 rfl) ?_
          refine zg_Main_variantRing X hW h0 zu_476 dX10_findParts_111 ?_
          refine zcallv (zrunV (As := [.ref (zad w 6), .ref (zad w 55)]) (rest := []) X hml hl hW h0.2.2.2.2.2.2.2.2.2.1.1 rfl zk_Main_333 (c_Settling_settle h0.2.2.2.2.2.2.2.2.2.1 h0.2.2.2.2.2.1 h0.2.2.2.2.2.2.2.2.2.2.2.1 h) rfl ⟨Nat.le_of_ble_eq_true rfl, Nat.le_of_ble_eq_true rfl⟩ ⟨Nat.le_refl 0, Nat.le_refl 0⟩ rfl (Nat.le_of_ble_eq_true rfl) dX10_findParts_114) hW (fun zm10 H locs h hW => ?_)
          refine lv_aload_n hx hb dX10_findParts_117 rfl (lv_at hl 0 rfl) ?_
          refine zg_Main_variantRing X hW h0 zu_476 dX10_findParts_118 ?_
          refine zg_Ring_top X hW h0.2.2.2.2.2.2.2.2.2.2.2.1 zu_308 dX10_findParts_121 ?_
          refine lv_i2l hx hb dX10_findParts_124 rfl ?_
          refine lv_aload_n hx hb dX10_findParts_125 rfl (lv_at hl 0 rfl) ?_
          refine zg_Main_variantRing X hW h0 zu_476 dX10_findParts_126 ?_
          refine zg_Ring_bottom X hW h0.2.2.2.2.2.2.2.2.2.2.2.1 zu_311 dX10_findParts_129 ?_
          refine lv_i2l hx hb dX10_findParts_132 rfl ?_
          refine lv_aload_n hx hb dX10_findParts_133 rfl (lv_at hl 0 rfl) ?_
          refine zg_Main_bestParts X hW h0 zu_478 dX10_findParts_134 ?_
          refine zg_Parts_top X hW h0.2.2.2.2.2.2.2.2.2.2.2.2.2 zu_356 dX10_findParts_137 ?_
          refine lv_i2l hx hb dX10_findParts_140 rfl ?_
          refine lv_aload_n hx hb dX10_findParts_141 rfl (lv_at hl 0 rfl) ?_
          refine zg_Main_bestParts X hW h0 zu_478 dX10_findParts_142 ?_
          refine zg_Parts_bottom X hW h0.2.2.2.2.2.2.2.2.2.2.2.2.2 zu_358 dX10_findParts_145 ?_
          refine lv_i2l hx hb dX10_findParts_148 rfl ?_
          refine zcalli (zrunS (As := [.long ((zm10 55 6).toInt64), .long ((zm10 55 7).toInt64), .long ((zm10 60 1).toInt64), .long ((zm10 60 2).toInt64)]) (rest := []) X hml hl hW zk_Main_313 (c_Main_isMore  h) rfl ⟨Nat.le_of_ble_eq_true rfl, Nat.le_of_ble_eq_true rfl⟩ ⟨Nat.le_refl 0, Nat.le_refl 0⟩ rfl (Nat.le_of_ble_eq_true rfl) dX10_findParts_149) hW (fun zr13 zm12 H locs h hW => ?_)
          refine lv_if_eq (tgt := 170) hx hb dX10_findParts_152 rfl (fun c => ?_) (fun c => ?_)
          · replace h := h.1 c
            refine lv_aload_n hx hb dX10_findParts_170 rfl (lv_at hl 0 rfl) ?_
            refine zg_Main_variant X hW h0 zu_468 dX10_findParts_171 ?_
            refine zcalli (zrunV (As := []) (rest := []) X hml hl hW h0.2.2.2.2.2.1.1 rfl zk_Main_386 (c_Told_moveEnds h0.2.2.2.2.2.1 h) rfl ⟨Nat.le_of_ble_eq_true rfl, Nat.le_of_ble_eq_true rfl⟩ ⟨Nat.le_refl 0, Nat.le_refl 0⟩ rfl (Nat.le_of_ble_eq_true rfl) dX10_findParts_174) hW (fun zr15 zm14 H locs h hW => ?_)
            refine lv_istore_n (lv' := [(1, .int zr15), (0, .ref (zad w 0)), (2, .int x_2)]) hx hb dX10_findParts_177 rfl hl (Nat.le_of_ble_eq_true rfl) rfl (fun ls hl => ?_)
            obtain ⟨zx16, ezx16⟩ : ∃ y : Int32, y = x_2 + 1 := ⟨_, rfl⟩
            replace h := h zx16 ezx16
            refine lv_iinc (v := zx16) (lv' := [(2, .int zx16), (1, .int zr15), (0, .ref (zad w 0))]) hx hb dX10_findParts_178 hl (k := 2) rfl (by rw [ezx16, zc_i1]) (Nat.le_of_ble_eq_true rfl) rfl (fun ls hl => ?_)
            refine lv_goto (tgt := 91) hx hb dX10_findParts_181 rfl ?_
            exact zJ zr15 zx16 zm14 H locs ls hW (lv_sub hl [2, 1, 0] rfl) h
          · replace h := h.2 c
            refine lv_aload_n hx hb dX10_findParts_155 rfl (lv_at hl 0 rfl) ?_
            refine zg_Main_bestParts X hW h0 zu_478 dX10_findParts_156 ?_
            refine lv_aload_n hx hb dX10_findParts_159 rfl (lv_at hl 0 rfl) ?_
            refine zg_Main_variant X hW h0 zu_468 dX10_findParts_160 ?_
            refine lv_aload_n hx hb dX10_findParts_163 rfl (lv_at hl 0 rfl) ?_
            refine zg_Main_variantRing X hW h0 zu_476 dX10_findParts_164 ?_
            refine zcallv (zrunV (As := [.ref (zad w 6), .ref (zad w 55)]) (rest := []) X hml hl hW h0.2.2.2.2.2.2.2.2.2.2.2.2.2.1 rfl zk_Main_383 (c_Parts_takeFrom h0.2.2.2.2.2.2.2.2.2.2.2.2.2 h0.2.2.2.2.2.1 h0.2.2.2.2.2.2.2.2.2.2.2.1 h) rfl ⟨Nat.le_of_ble_eq_true rfl, Nat.le_of_ble_eq_true rfl⟩ ⟨Nat.le_refl 0, Nat.le_refl 0⟩ rfl (Nat.le_of_ble_eq_true rfl) dX10_findParts_167) hW (fun zm17 H locs h hW => ?_)
            refine lv_aload_n hx hb dX10_findParts_170 rfl (lv_at hl 0 rfl) ?_
            refine zg_Main_variant X hW h0 zu_468 dX10_findParts_171 ?_
            refine zcalli (zrunV (As := []) (rest := []) X hml hl hW h0.2.2.2.2.2.1.1 rfl zk_Main_386 (c_Told_moveEnds h0.2.2.2.2.2.1 h) rfl ⟨Nat.le_of_ble_eq_true rfl, Nat.le_of_ble_eq_true rfl⟩ ⟨Nat.le_refl 0, Nat.le_refl 0⟩ rfl (Nat.le_of_ble_eq_true rfl) dX10_findParts_174) hW (fun zr20 zm19 H locs h hW => ?_)
            refine lv_istore_n (lv' := [(1, .int zr20), (0, .ref (zad w 0)), (2, .int x_2)]) hx hb dX10_findParts_177 rfl hl (Nat.le_of_ble_eq_true rfl) rfl (fun ls hl => ?_)
            obtain ⟨zx21, ezx21⟩ : ∃ y : Int32, y = x_2 + 1 := ⟨_, rfl⟩
            replace h := h zx21 ezx21
            refine lv_iinc (v := zx21) (lv' := [(2, .int zx21), (1, .int zr20), (0, .ref (zad w 0))]) hx hb dX10_findParts_178 hl (k := 2) rfl (by rw [ezx21, zc_i1]) (Nat.le_of_ble_eq_true rfl) rfl (fun ls hl => ?_)
            refine lv_goto (tgt := 91) hx hb dX10_findParts_181 rfl ?_
            exact zJ zr20 zx21 zm19 H locs ls hW (lv_sub hl [2, 1, 0] rfl) h
  unfold wp_Main_findParts at h
  have zMain : ∀ (H : Heap) (locs : List Loc) (ls : Array Slot), zWo w s.heap M H locs → lv_has ls 3 [(0, .ref (zad w 0))] → W p l e (zRm 5 118) s m ([.ref (zad w 0)] : List Value).toArray below meth c H locs 0 0 (MQ below (va_Qv post (zB w) (zA w)) ([.ref (zad w 0)] : List Value).toArray s 0 0 (zA w)) (F0 m 0 ls []) := by
    intro H locs ls hW hl
    refine lv_aload_n hx hb dX10_findParts_0 rfl (lv_at hl 0 rfl) ?_
    refine zg_Main_bestParts X hW h0 zu_478 dX10_findParts_1 ?_
    refine zg_Parts_known X hW h0.2.2.2.2.2.2.2.2.2.2.2.2.2 zu_354 dX10_findParts_4 ?_
    refine lv_if_eq (tgt := 11) hx hb dX10_findParts_7 rfl (fun c => ?_) (fun c => ?_)
    · replace h := h.1 c
      refine lv_aload_n hx hb dX10_findParts_11 rfl (lv_at hl 0 rfl) ?_
      refine zg_Main_bestParts X hW h0 zu_478 dX10_findParts_12 ?_
      refine lv_iconst hx hb dX10_findParts_15 zc_i1 ?_
      refine zp_Parts_known X hW h0.2.2.2.2.2.2.2.2.2.2.2.2.2 zbo_1 zu_354 dX10_findParts_16 (fun H locs zm1 ezm1 hW => ?_)
      replace h := h zm1 ezm1
      refine lv_aload_n hx hb dX10_findParts_19 rfl (lv_at hl 0 rfl) ?_
      refine zg_Main_bestParts X hW h0 zu_478 dX10_findParts_20 ?_
      refine lv_iconst hx hb dX10_findParts_23 zc_im1 ?_
      refine zp_Parts_top X hW h0.2.2.2.2.2.2.2.2.2.2.2.2.2 zu_356 dX10_findParts_24 (fun H locs zm2 ezm2 hW => ?_)
      replace h := h zm2 ezm2
      refine lv_aload_n hx hb dX10_findParts_27 rfl (lv_at hl 0 rfl) ?_
      refine zg_Main_bestParts X hW h0 zu_478 dX10_findParts_28 ?_
      refine lv_iconst hx hb dX10_findParts_31 zc_i1 ?_
      refine zp_Parts_bottom X hW h0.2.2.2.2.2.2.2.2.2.2.2.2.2 zu_358 dX10_findParts_32 (fun H locs zm3 ezm3 hW => ?_)
      replace h := h zm3 ezm3
      refine lv_aload_n hx hb dX10_findParts_35 rfl (lv_at hl 0 rfl) ?_
      refine zg_Main_variant X hW h0 zu_468 dX10_findParts_36 ?_
      refine lv_aload_n hx hb dX10_findParts_39 rfl (lv_at hl 0 rfl) ?_
      refine zg_Main_told X hW h0 zu_467 dX10_findParts_40 ?_
      refine zcallv (zrunV (As := [.ref (zad w 1)]) (rest := []) X hml hl hW h0.2.2.2.2.2.1.1 rfl zk_Main_117 (c_Told_copyFrom h0.2.2.2.2.2.1 h0.2.2.2.2.1 h) rfl ⟨Nat.le_of_ble_eq_true rfl, Nat.le_of_ble_eq_true rfl⟩ ⟨Nat.le_refl 0, Nat.le_refl 0⟩ rfl (Nat.le_of_ble_eq_true rfl) dX10_findParts_43) hW (fun zm4 H locs h hW => ?_)
      refine lv_aload_n hx hb dX10_findParts_46 rfl (lv_at hl 0 rfl) ?_
      refine zg_Main_variant X hW h0 zu_468 dX10_findParts_47 ?_
      refine lv_iconst hx hb dX10_findParts_50 zc_i2 ?_
      refine zp_Told_kind X hW h0.2.2.2.2.2.1 zu_50 dX10_findParts_51 (fun H locs zm6 ezm6 hW => ?_)
      replace h := h zm6 ezm6
      refine lv_iconst hx hb dX10_findParts_54 zc_i0 ?_
      refine lv_istore_n (lv' := [(1, .int 0), (0, .ref (zad w 0))]) hx hb dX10_findParts_55 rfl hl (Nat.le_of_ble_eq_true rfl) rfl (fun ls hl => ?_)
      obtain ⟨n, h⟩ := h
      refine zL_56  _ (fun  zm9 H locs ls hW hl h => ?_) n 0 zm6 H locs ls hW (lv_sub hl [1, 0] rfl) h
      · skip
        refine lv_iconst hx hb dX10_findParts_87 zc_i1 ?_
        refine lv_istore_n (lv' := [(1, .int 1), (0, .ref (zad w 0))]) hx hb dX10_findParts_88 rfl hl (Nat.le_of_ble_eq_true rfl) rfl (fun ls hl => ?_)
        refine lv_iconst hx hb dX10_findParts_89 zc_i0 ?_
        refine lv_istore_n (lv' := [(2, .int 0), (1, .int 1), (0, .ref (zad w 0))]) hx hb dX10_findParts_90 rfl hl (Nat.le_of_ble_eq_true rfl) rfl (fun ls hl => ?_)
        obtain ⟨n, h⟩ := h
        refine zL_91   n 1 0 zm9 H locs ls hW (lv_sub hl [2, 1, 0] rfl) h
    · replace h := h.2 c
      exact zretv X hr hlk hW h dX10_findParts_10
  exact zMain s.heap [] ls hW hl
def wpJ_Main_parts_41 (a1 : Int32)  (Q : Int32 → zMem → Prop) (x_2 : Int32)  (M : zMem) : Prop :=
  ((M 1 1) ≤ (M 1 0) → wp_Main_findParts M (fun zm3 => (x_2 = 0 → (¬ a1 = 0 → Q (zm3 60 2) zm3) ∧ (a1 = 0 → Q (zm3 60 1) zm3)) ∧ (¬ x_2 = 0 → vp_in (a1 - 10) 5 ∧ Q (zm3 61 (ix (a1 - 10))) zm3))) ∧ (¬ (M 1 1) ≤ (M 1 0) → Q ((-4)) M)
def wpJ_Main_parts_27 (a1 : Int32)  (Q : Int32 → zMem → Prop)  (s_0 : Int32) (M : zMem) : Prop :=
  wp_Main_isHalf a1 M (fun zr2 zm1 => (¬ zr2 = 0 → wpJ_Main_parts_41 a1 Q s_0 zm1) ∧ (zr2 = 0 → (¬ s_0 = 0 → wpJ_Main_parts_41 a1 Q s_0 zm1) ∧ (s_0 = 0 → Q ((-1)) zm1)))
def wpJ_Main_parts_26 (a1 : Int32)  (Q : Int32 → zMem → Prop)   (M : zMem) : Prop :=
  wpJ_Main_parts_27 a1 Q 0 M
def wp_Main_parts (a1 : Int32) (M : zMem) (Q : Int32 → zMem → Prop) : Prop :=
  (a1 < 10 → wpJ_Main_parts_26 a1 Q M) ∧ (¬ a1 < 10 → (((10 + (M 1 1)) - 1) ≤ a1 → wpJ_Main_parts_26 a1 Q M) ∧ (¬ ((10 + (M 1 1)) - 1) ≤ a1 → wpJ_Main_parts_27 a1 Q 1 M))
set_option maxHeartbeats 4000000 in
set_option maxRecDepth 20000 in
theorem c_Main_parts {l : Launch} {w : zWd} {a1 : Int32} {M : zMem} {post : Int32 → zMem → Prop} (h0 : zI_Main w) (h : wp_Main_parts a1 M post) : zMi l ⟨"HandToHand", "parts", "(I)I"⟩ prog_1_method_30_code 3 (Option.some .int) 6 140 w [.ref (zad w 0), .int a1] M post := by
  refine zMet (by decide) (Nat.le_of_ble_eq_true rfl) ?_
  intro p e s m below meth c X hr hlk hml hW ls hl
  have hx := X.1
  have hb := X.2.1
  have hl : lv_has ls 3 [(0, .ref (zad w 0)), (1, .int a1)] := hl
  have zJ_41 : ∀ (x_2 : Int32) (M : zMem) (H : Heap) (locs : List Loc) (ls : Array Slot), zWo w s.heap M H locs → lv_has ls 3 [(0, .ref (zad w 0)), (1, .int a1), (2, .int x_2)] → wpJ_Main_parts_41 a1 post x_2 M → W p l e (zRm 6 140) s m ([.ref (zad w 0), .int a1] : List Value).toArray below meth c H locs 0 0 (MQ below (va_Qi post (zB w) (zA w)) ([.ref (zad w 0), .int a1] : List Value).toArray s 0 0 (zA w)) (F0 m 41 ls []) := by
    intro x_2 M H locs ls hW hl h
    unfold wpJ_Main_parts_41 at h
    refine lv_aload_n hx hb dX10_parts_41 rfl (lv_at hl 0 rfl) ?_
    refine zg_Main_told X hW h0 zu_467 dX10_parts_42 ?_
    refine zg_Told_pieces X hW h0.2.2.2.2.1 zu_35 dX10_parts_45 ?_
    refine lv_aload_n hx hb dX10_parts_48 rfl (lv_at hl 0 rfl) ?_
    refine zg_Main_told X hW h0 zu_467 dX10_parts_49 ?_
    refine zg_Told_hands X hW h0.2.2.2.2.1 zu_41 dX10_parts_52 ?_
    refine lv_icmp_ge (tgt := 61) hx hb dX10_parts_55 rfl (fun c => ?_) (fun c => ?_)
    · replace h := h.1 c
      refine lv_aload_n hx hb dX10_parts_61 rfl (lv_at hl 0 rfl) ?_
      refine zcallv (zrunV (As := []) (rest := []) X hml hl hW h0.1 rfl zk_Main_324 (c_Main_findParts h0 h) rfl ⟨Nat.le_of_ble_eq_true rfl, Nat.le_of_ble_eq_true rfl⟩ ⟨Nat.le_refl 0, Nat.le_refl 0⟩ rfl (Nat.le_of_ble_eq_true rfl) dX10_parts_62) hW (fun zm3 H locs h hW => ?_)
      refine lv_iload_n hx hb dX10_parts_65 rfl (lv_at hl 2 rfl) ?_
      refine lv_if_eq (tgt := 82) hx hb dX10_parts_66 rfl (fun c => ?_) (fun c => ?_)
      · replace h := h.1 c
        refine lv_iload_n hx hb dX10_parts_82 rfl (lv_at hl 1 rfl) ?_
        refine lv_if_ne (tgt := 96) hx hb dX10_parts_83 rfl (fun c => ?_) (fun c => ?_)
        · replace h := h.1 c
          refine lv_aload_n hx hb dX10_parts_96 rfl (lv_at hl 0 rfl) ?_
          refine zg_Main_bestParts X hW h0 zu_478 dX10_parts_97 ?_
          refine zg_Parts_bottom X hW h0.2.2.2.2.2.2.2.2.2.2.2.2.2 zu_358 dX10_parts_100 ?_
          exact zreti X hr hlk hW h dX10_parts_103
        · replace h := h.2 c
          refine lv_aload_n hx hb dX10_parts_86 rfl (lv_at hl 0 rfl) ?_
          refine zg_Main_bestParts X hW h0 zu_478 dX10_parts_87 ?_
          refine zg_Parts_top X hW h0.2.2.2.2.2.2.2.2.2.2.2.2.2 zu_356 dX10_parts_90 ?_
          refine lv_goto (tgt := 103) hx hb dX10_parts_93 rfl ?_
          exact zreti X hr hlk hW h dX10_parts_103
      · replace h := h.2 c
        refine lv_aload_n hx hb dX10_parts_69 rfl (lv_at hl 0 rfl) ?_
        refine zg_Main_bestParts X hW h0 zu_478 dX10_parts_70 ?_
        refine zg_Parts_ends X hW h0.2.2.2.2.2.2.2.2.2.2.2.2.2 zu_360 dX10_parts_73 ?_
        refine lv_iload_n hx hb dX10_parts_76 rfl (lv_at hl 1 rfl) ?_
        refine lv_bipush hx hb dX10_parts_77 zc_b10 ?_
        refine lv_isub hx hb dX10_parts_79 ?_
        obtain ⟨g, h⟩ := h
        refine ziald X hW h0.2.2.2.2.2.2.2.2.2.2.2.2.2.2 g dX10_parts_80 ?_
        exact zreti X hr hlk hW h dX10_parts_81
    · replace h := h.2 c
      refine lv_bipush hx hb dX10_parts_58 zc_bm4 ?_
      exact zreti X hr hlk hW h dX10_parts_60
  have zJ_27 : ∀ (s_0 : Int32) (M : zMem) (H : Heap) (locs : List Loc) (ls : Array Slot), zWo w s.heap M H locs → lv_has ls 3 [(0, .ref (zad w 0)), (1, .int a1)] → wpJ_Main_parts_27 a1 post s_0 M → W p l e (zRm 6 140) s m ([.ref (zad w 0), .int a1] : List Value).toArray below meth c H locs 0 0 (MQ below (va_Qi post (zB w) (zA w)) ([.ref (zad w 0), .int a1] : List Value).toArray s 0 0 (zA w)) (F0 m 27 ls [.int s_0]) := by
    intro s_0 M H locs ls hW hl h
    unfold wpJ_Main_parts_27 at h
    refine lv_istore_n (lv' := [(2, .int s_0), (0, .ref (zad w 0)), (1, .int a1)]) hx hb dX10_parts_27 rfl hl (Nat.le_of_ble_eq_true rfl) rfl (fun ls hl => ?_)
    refine lv_iload_n hx hb dX10_parts_28 rfl (lv_at hl 2 rfl) ?_
    refine zcalli (zrunS (As := [.int a1]) (rest := []) X hml hl hW zk_Main_278 (c_Main_isHalf  h) rfl ⟨Nat.le_of_ble_eq_true rfl, Nat.le_of_ble_eq_true rfl⟩ ⟨Nat.le_refl 0, Nat.le_refl 0⟩ rfl (Nat.le_of_ble_eq_true rfl) dX10_parts_29) hW (fun zr2 zm1 H locs h hW => ?_)
    refine lv_if_ne (tgt := 41) hx hb dX10_parts_32 rfl (fun c => ?_) (fun c => ?_)
    · replace h := h.1 c
      exact zJ_41 s_0 zm1 H locs ls hW (lv_sub hl [1, 2, 0] rfl) h
    · replace h := h.2 c
      refine lv_iload_n hx hb dX10_parts_35 rfl (lv_at hl 0 rfl) ?_
      refine lv_if_ne (tgt := 41) hx hb dX10_parts_36 rfl (fun c => ?_) (fun c => ?_)
      · replace h := h.1 c
        exact zJ_41 s_0 zm1 H locs ls hW (lv_sub hl [1, 2, 0] rfl) h
      · replace h := h.2 c
        refine lv_iconst hx hb dX10_parts_39 zc_im1 ?_
        exact zreti X hr hlk hW h dX10_parts_40
  have zJ_26 : ∀ (M : zMem) (H : Heap) (locs : List Loc) (ls : Array Slot), zWo w s.heap M H locs → lv_has ls 3 [(0, .ref (zad w 0)), (1, .int a1)] → wpJ_Main_parts_26 a1 post M → W p l e (zRm 6 140) s m ([.ref (zad w 0), .int a1] : List Value).toArray below meth c H locs 0 0 (MQ below (va_Qi post (zB w) (zA w)) ([.ref (zad w 0), .int a1] : List Value).toArray s 0 0 (zA w)) (F0 m 26 ls []) := by
    intro  M H locs ls hW hl h
    unfold wpJ_Main_parts_26 at h
    refine lv_iconst hx hb dX10_parts_26 zc_i0 ?_
    exact zJ_27 0 M H locs ls hW (lv_sub hl [0, 1] rfl) h
  unfold wp_Main_parts at h
  have zMain : ∀ (H : Heap) (locs : List Loc) (ls : Array Slot), zWo w s.heap M H locs → lv_has ls 3 [(0, .ref (zad w 0)), (1, .int a1)] → W p l e (zRm 6 140) s m ([.ref (zad w 0), .int a1] : List Value).toArray below meth c H locs 0 0 (MQ below (va_Qi post (zB w) (zA w)) ([.ref (zad w 0), .int a1] : List Value).toArray s 0 0 (zA w)) (F0 m 0 ls []) := by
    intro H locs ls hW hl
    refine lv_iload_n hx hb dX10_parts_0 rfl (lv_at hl 1 rfl) ?_
    refine lv_bipush hx hb dX10_parts_1 zc_b10 ?_
    refine lv_icmp_lt (tgt := 26) hx hb dX10_parts_3 rfl (fun c => ?_) (fun c => ?_)
    · replace h := h.1 c
      exact zJ_26  M H locs ls hW (lv_sub hl [0, 1] rfl) h
    · replace h := h.2 c
      refine lv_iload_n hx hb dX10_parts_6 rfl (lv_at hl 1 rfl) ?_
      refine lv_bipush hx hb dX10_parts_7 zc_b10 ?_
      refine lv_aload_n hx hb dX10_parts_9 rfl (lv_at hl 0 rfl) ?_
      refine zg_Main_told X hW h0 zu_467 dX10_parts_10 ?_
      refine zg_Told_hands X hW h0.2.2.2.2.1 zu_41 dX10_parts_13 ?_
      refine lv_iadd hx hb dX10_parts_16 ?_
      refine lv_iconst hx hb dX10_parts_17 zc_i1 ?_
      refine lv_isub hx hb dX10_parts_18 ?_
      refine lv_icmp_ge (tgt := 26) hx hb dX10_parts_19 rfl (fun c => ?_) (fun c => ?_)
      · replace h := h.1 c
        exact zJ_26  M H locs ls hW (lv_sub hl [0, 1] rfl) h
      · replace h := h.2 c
        refine lv_iconst hx hb dX10_parts_22 zc_i1 ?_
        refine lv_goto (tgt := 27) hx hb dX10_parts_23 rfl ?_
        exact zJ_27 1 M H locs ls hW (lv_sub hl [0, 1] rfl) h
  exact zMain s.heap [] ls hW hl
def wp_Main_less (a1 : Int32) (a2 : Int32) (M : zMem) (Q : Int32 → zMem → Prop) : Prop :=
  wp_Main_isHand a1 M (fun zr2 zm1 => (zr2 = 0 → Q ((-1)) zm1) ∧ (¬ zr2 = 0 → wp_Main_isHalf a2 zm1 (fun zr4 zm3 => (¬ zr4 = 0 → (¬ (zm3 1 1) = 1 → wp_Told_copyFrom 6 1 zm3 (fun zm5 => wp_Told_dropHand 6 a1 zm5 (fun zm7 => wp_Settling_settle 41 6 55 zm7 (fun zm9 => (¬ a2 = 0 → Q (zm9 55 7) zm9) ∧ (a2 = 0 → Q (zm9 55 6) zm9))))) ∧ ((zm3 1 1) = 1 → Q ((-2)) zm3)) ∧ (zr4 = 0 → Q ((-1)) zm3))))
set_option maxHeartbeats 4000000 in
set_option maxRecDepth 20000 in
theorem c_Main_less {l : Launch} {w : zWd} {a1 : Int32} {a2 : Int32} {M : zMem} {post : Int32 → zMem → Prop} (h0 : zI_Main w) (h : wp_Main_less a1 a2 M post) : zMi l ⟨"HandToHand", "less", "(II)I"⟩ prog_1_method_31_code 3 (Option.some .int) 5 118 w [.ref (zad w 0), .int a1, .int a2] M post := by
  refine zMet (by decide) (Nat.le_of_ble_eq_true rfl) ?_
  intro p e s m below meth c X hr hlk hml hW ls hl
  have hx := X.1
  have hb := X.2.1
  have hl : lv_has ls 3 [(0, .ref (zad w 0)), (1, .int a1), (2, .int a2)] := hl
  unfold wp_Main_less at h
  have zMain : ∀ (H : Heap) (locs : List Loc) (ls : Array Slot), zWo w s.heap M H locs → lv_has ls 3 [(0, .ref (zad w 0)), (1, .int a1), (2, .int a2)] → W p l e (zRm 5 118) s m ([.ref (zad w 0), .int a1, .int a2] : List Value).toArray below meth c H locs 0 0 (MQ below (va_Qi post (zB w) (zA w)) ([.ref (zad w 0), .int a1, .int a2] : List Value).toArray s 0 0 (zA w)) (F0 m 0 ls []) := by
    intro H locs ls hW hl
    refine lv_aload_n hx hb dX10_less_0 rfl (lv_at hl 0 rfl) ?_
    refine lv_iload_n hx hb dX10_less_1 rfl (lv_at hl 1 rfl) ?_
    refine zcalli (zrunV (As := [.int a1]) (rest := []) X hml hl hW h0.1 rfl zk_Main_165 (c_Main_isHand h0 h) rfl ⟨Nat.le_of_ble_eq_true rfl, Nat.le_of_ble_eq_true rfl⟩ ⟨Nat.le_refl 0, Nat.le_refl 0⟩ rfl (Nat.le_of_ble_eq_true rfl) dX10_less_2) hW (fun zr2 zm1 H locs h hW => ?_)
    refine lv_if_eq (tgt := 15) hx hb dX10_less_5 rfl (fun c => ?_) (fun c => ?_)
    · replace h := h.1 c
      refine lv_iconst hx hb dX10_less_15 zc_im1 ?_
      exact zreti X hr hlk hW h dX10_less_16
    · replace h := h.2 c
      refine lv_iload_n hx hb dX10_less_8 rfl (lv_at hl 2 rfl) ?_
      refine zcalli (zrunS (As := [.int a2]) (rest := []) X hml hl hW zk_Main_278 (c_Main_isHalf  h) rfl ⟨Nat.le_of_ble_eq_true rfl, Nat.le_of_ble_eq_true rfl⟩ ⟨Nat.le_refl 0, Nat.le_refl 0⟩ rfl (Nat.le_of_ble_eq_true rfl) dX10_less_9) hW (fun zr4 zm3 H locs h hW => ?_)
      refine lv_if_ne (tgt := 17) hx hb dX10_less_12 rfl (fun c => ?_) (fun c => ?_)
      · replace h := h.1 c
        refine lv_aload_n hx hb dX10_less_17 rfl (lv_at hl 0 rfl) ?_
        refine zg_Main_told X hW h0 zu_467 dX10_less_18 ?_
        refine zg_Told_hands X hW h0.2.2.2.2.1 zu_41 dX10_less_21 ?_
        refine lv_iconst hx hb dX10_less_24 zc_i1 ?_
        refine lv_icmp_ne (tgt := 31) hx hb dX10_less_25 rfl (fun c => ?_) (fun c => ?_)
        · replace h := h.1 c
          refine lv_aload_n hx hb dX10_less_31 rfl (lv_at hl 0 rfl) ?_
          refine zg_Main_variant X hW h0 zu_468 dX10_less_32 ?_
          refine lv_aload_n hx hb dX10_less_35 rfl (lv_at hl 0 rfl) ?_
          refine zg_Main_told X hW h0 zu_467 dX10_less_36 ?_
          refine zcallv (zrunV (As := [.ref (zad w 1)]) (rest := []) X hml hl hW h0.2.2.2.2.2.1.1 rfl zk_Main_117 (c_Told_copyFrom h0.2.2.2.2.2.1 h0.2.2.2.2.1 h) rfl ⟨Nat.le_of_ble_eq_true rfl, Nat.le_of_ble_eq_true rfl⟩ ⟨Nat.le_refl 0, Nat.le_refl 0⟩ rfl (Nat.le_of_ble_eq_true rfl) dX10_less_39) hW (fun zm5 H locs h hW => ?_)
          refine lv_aload_n hx hb dX10_less_42 rfl (lv_at hl 0 rfl) ?_
          refine zg_Main_variant X hW h0 zu_468 dX10_less_43 ?_
          refine lv_iload_n hx hb dX10_less_46 rfl (lv_at hl 1 rfl) ?_
          refine zcallv (zrunV (As := [.int a1]) (rest := []) X hml hl hW h0.2.2.2.2.2.1.1 rfl zk_Main_330 (c_Told_dropHand h0.2.2.2.2.2.1 h) rfl ⟨Nat.le_of_ble_eq_true rfl, Nat.le_of_ble_eq_true rfl⟩ ⟨Nat.le_refl 0, Nat.le_refl 0⟩ rfl (Nat.le_of_ble_eq_true rfl) dX10_less_47) hW (fun zm7 H locs h hW => ?_)
          refine lv_aload_n hx hb dX10_less_50 rfl (lv_at hl 0 rfl) ?_
          refine zg_Main_settling X hW h0 zu_474 dX10_less_51 ?_
          refine lv_aload_n hx hb dX10_less_54 rfl (lv_at hl 0 rfl) ?_
          refine zg_Main_variant X hW h0 zu_468 dX10_less_55 ?_
          refine lv_aload_n hx hb dX10_less_58 rfl (lv_at hl 0 rfl) ?_
          refine zg_Main_variantRing X hW h0 zu_476 dX10_less_59 ?_
          refine zcallv (zrunV (As := [.ref (zad w 6), .ref (zad w 55)]) (rest := []) X hml hl hW h0.2.2.2.2.2.2.2.2.2.1.1 rfl zk_Main_333 (c_Settling_settle h0.2.2.2.2.2.2.2.2.2.1 h0.2.2.2.2.2.1 h0.2.2.2.2.2.2.2.2.2.2.2.1 h) rfl ⟨Nat.le_of_ble_eq_true rfl, Nat.le_of_ble_eq_true rfl⟩ ⟨Nat.le_refl 0, Nat.le_refl 0⟩ rfl (Nat.le_of_ble_eq_true rfl) dX10_less_62) hW (fun zm9 H locs h hW => ?_)
          refine lv_iload_n hx hb dX10_less_65 rfl (lv_at hl 2 rfl) ?_
          refine lv_if_ne (tgt := 79) hx hb dX10_less_66 rfl (fun c => ?_) (fun c => ?_)
          · replace h := h.1 c
            refine lv_aload_n hx hb dX10_less_79 rfl (lv_at hl 0 rfl) ?_
            refine zg_Main_variantRing X hW h0 zu_476 dX10_less_80 ?_
            refine zg_Ring_bottom X hW h0.2.2.2.2.2.2.2.2.2.2.2.1 zu_311 dX10_less_83 ?_
            exact zreti X hr hlk hW h dX10_less_86
          · replace h := h.2 c
            refine lv_aload_n hx hb dX10_less_69 rfl (lv_at hl 0 rfl) ?_
            refine zg_Main_variantRing X hW h0 zu_476 dX10_less_70 ?_
            refine zg_Ring_top X hW h0.2.2.2.2.2.2.2.2.2.2.2.1 zu_308 dX10_less_73 ?_
            refine lv_goto (tgt := 86) hx hb dX10_less_76 rfl ?_
            exact zreti X hr hlk hW h dX10_less_86
        · replace h := h.2 c
          refine lv_bipush hx hb dX10_less_28 zc_bm2 ?_
          exact zreti X hr hlk hW h dX10_less_30
      · replace h := h.2 c
        refine lv_iconst hx hb dX10_less_15 zc_im1 ?_
        exact zreti X hr hlk hW h dX10_less_16
  exact zMain s.heap [] ls hW hl
def wp_Main_isSheet (a1 : Int32) (M : zMem) (Q : Int32 → zMem → Prop) : Prop :=
  (a1 < 0 → Q 0 M) ∧ (¬ a1 < 0 → (4 ≤ a1 → Q 0 M) ∧ (¬ 4 ≤ a1 → Q 1 M))
set_option maxHeartbeats 4000000 in
set_option maxRecDepth 20000 in
theorem c_Main_isSheet {l : Launch} {w : zWd} {a1 : Int32} {M : zMem} {post : Int32 → zMem → Prop}  (h : wp_Main_isSheet a1 M post) : zMi l ⟨"HandToHand", "isSheet", "(I)Z"⟩ prog_1_method_43_code 1 (Option.some .boolean) 0 0 w [.int a1] M post := by
  refine zMet (by decide) (Nat.le_of_ble_eq_true rfl) ?_
  intro p e s m below meth c X hr hlk hml hW ls hl
  have hx := X.1
  have hb := X.2.1
  have hl : lv_has ls 1 [(0, .int a1)] := hl
  unfold wp_Main_isSheet at h
  have zMain : ∀ (H : Heap) (locs : List Loc) (ls : Array Slot), zWo w s.heap M H locs → lv_has ls 1 [(0, .int a1)] → W p l e (zRm 0 0) s m ([.int a1] : List Value).toArray below meth c H locs 0 0 (MQ below (va_Qi post (zB w) (zA w)) ([.int a1] : List Value).toArray s 0 0 (zA w)) (F0 m 0 ls []) := by
    intro H locs ls hW hl
    refine lv_iload_n hx hb dX10_isSheet_0 rfl (lv_at hl 0 rfl) ?_
    refine lv_if_lt (tgt := 13) hx hb dX10_isSheet_1 rfl (fun c => ?_) (fun c => ?_)
    · replace h := h.1 c
      refine lv_iconst hx hb dX10_isSheet_13 zc_i0 ?_
      exact zretz X hr hlk hW rfl h dX10_isSheet_14
    · replace h := h.2 c
      refine lv_iload_n hx hb dX10_isSheet_4 rfl (lv_at hl 0 rfl) ?_
      refine lv_iconst hx hb dX10_isSheet_5 zc_i4 ?_
      refine lv_icmp_ge (tgt := 13) hx hb dX10_isSheet_6 rfl (fun c => ?_) (fun c => ?_)
      · replace h := h.1 c
        refine lv_iconst hx hb dX10_isSheet_13 zc_i0 ?_
        exact zretz X hr hlk hW rfl h dX10_isSheet_14
      · replace h := h.2 c
        refine lv_iconst hx hb dX10_isSheet_9 zc_i1 ?_
        refine lv_goto (tgt := 14) hx hb dX10_isSheet_10 rfl ?_
        exact zretz X hr hlk hW rfl h dX10_isSheet_14
  exact zMain s.heap [] ls hW hl
def wp_Main_isLane (a1 : Int32) (M : zMem) (Q : Int32 → zMem → Prop) : Prop :=
  (a1 < 0 → Q 0 M) ∧ (¬ a1 < 0 → (3 ≤ a1 → Q 0 M) ∧ (¬ 3 ≤ a1 → Q 1 M))
set_option maxHeartbeats 4000000 in
set_option maxRecDepth 20000 in
theorem c_Main_isLane {l : Launch} {w : zWd} {a1 : Int32} {M : zMem} {post : Int32 → zMem → Prop}  (h : wp_Main_isLane a1 M post) : zMi l ⟨"HandToHand", "isLane", "(I)Z"⟩ prog_1_method_44_code 1 (Option.some .boolean) 0 0 w [.int a1] M post := by
  refine zMet (by decide) (Nat.le_of_ble_eq_true rfl) ?_
  intro p e s m below meth c X hr hlk hml hW ls hl
  have hx := X.1
  have hb := X.2.1
  have hl : lv_has ls 1 [(0, .int a1)] := hl
  unfold wp_Main_isLane at h
  have zMain : ∀ (H : Heap) (locs : List Loc) (ls : Array Slot), zWo w s.heap M H locs → lv_has ls 1 [(0, .int a1)] → W p l e (zRm 0 0) s m ([.int a1] : List Value).toArray below meth c H locs 0 0 (MQ below (va_Qi post (zB w) (zA w)) ([.int a1] : List Value).toArray s 0 0 (zA w)) (F0 m 0 ls []) := by
    intro H locs ls hW hl
    refine lv_iload_n hx hb dX10_isLane_0 rfl (lv_at hl 0 rfl) ?_
    refine lv_if_lt (tgt := 13) hx hb dX10_isLane_1 rfl (fun c => ?_) (fun c => ?_)
    · replace h := h.1 c
      refine lv_iconst hx hb dX10_isLane_13 zc_i0 ?_
      exact zretz X hr hlk hW rfl h dX10_isLane_14
    · replace h := h.2 c
      refine lv_iload_n hx hb dX10_isLane_4 rfl (lv_at hl 0 rfl) ?_
      refine lv_iconst hx hb dX10_isLane_5 zc_i3 ?_
      refine lv_icmp_ge (tgt := 13) hx hb dX10_isLane_6 rfl (fun c => ?_) (fun c => ?_)
      · replace h := h.1 c
        refine lv_iconst hx hb dX10_isLane_13 zc_i0 ?_
        exact zretz X hr hlk hW rfl h dX10_isLane_14
      · replace h := h.2 c
        refine lv_iconst hx hb dX10_isLane_9 zc_i1 ?_
        refine lv_goto (tgt := 14) hx hb dX10_isLane_10 rfl ?_
        exact zretz X hr hlk hW rfl h dX10_isLane_14
  exact zMain s.heap [] ls hW hl
def wp_Main_sheet (a1 : Int32) (a2 : Int32) (a3 : Int32) (M : zMem) (Q : Int32 → zMem → Prop) : Prop :=
  wp_Main_isSheet a1 M (fun zr2 zm1 => (zr2 = 0 → Q ((-1)) zm1) ∧ (¬ zr2 = 0 → wp_Main_isLane a2 zm1 (fun zr4 zm3 => (zr4 = 0 → Q ((-1)) zm3) ∧ (¬ zr4 = 0 → (a3 ≤ 40 → (0 ≤ a3 → vp_in a1 4 ∧ wp_Sheet_makeNew (81 + 2 * ix a1) a2 a3 zm3 (fun zm5 => Q 1 zm5)) ∧ (¬ 0 ≤ a3 → Q ((-14)) zm3)) ∧ (¬ a3 ≤ 40 → Q ((-1)) zm3)))))
set_option maxHeartbeats 4000000 in
set_option maxRecDepth 20000 in
theorem c_Main_sheet {l : Launch} {w : zWd} {a1 : Int32} {a2 : Int32} {a3 : Int32} {M : zMem} {post : Int32 → zMem → Prop} (h0 : zI_Main w) (h : wp_Main_sheet a1 a2 a3 M post) : zMi l ⟨"HandToHand", "sheet", "(III)I"⟩ prog_1_method_32_code 4 (Option.some .int) 1 23 w [.ref (zad w 0), .int a1, .int a2, .int a3] M post := by
  refine zMet (by decide) (Nat.le_of_ble_eq_true rfl) ?_
  intro p e s m below meth c X hr hlk hml hW ls hl
  have hx := X.1
  have hb := X.2.1
  have hl : lv_has ls 4 [(0, .ref (zad w 0)), (1, .int a1), (2, .int a2), (3, .int a3)] := hl
  unfold wp_Main_sheet at h
  have zMain : ∀ (H : Heap) (locs : List Loc) (ls : Array Slot), zWo w s.heap M H locs → lv_has ls 4 [(0, .ref (zad w 0)), (1, .int a1), (2, .int a2), (3, .int a3)] → W p l e (zRm 1 23) s m ([.ref (zad w 0), .int a1, .int a2, .int a3] : List Value).toArray below meth c H locs 0 0 (MQ below (va_Qi post (zB w) (zA w)) ([.ref (zad w 0), .int a1, .int a2, .int a3] : List Value).toArray s 0 0 (zA w)) (F0 m 0 ls []) := by
    intro H locs ls hW hl
    refine lv_iload_n hx hb dX10_sheet_0 rfl (lv_at hl 1 rfl) ?_
    refine zcalli (zrunS (As := [.int a1]) (rest := []) X hml hl hW zk_Main_337 (c_Main_isSheet  h) rfl ⟨Nat.le_of_ble_eq_true rfl, Nat.le_of_ble_eq_true rfl⟩ ⟨Nat.le_refl 0, Nat.le_refl 0⟩ rfl (Nat.le_of_ble_eq_true rfl) dX10_sheet_1) hW (fun zr2 zm1 H locs h hW => ?_)
    refine lv_if_eq (tgt := 20) hx hb dX10_sheet_4 rfl (fun c => ?_) (fun c => ?_)
    · replace h := h.1 c
      refine lv_iconst hx hb dX10_sheet_20 zc_im1 ?_
      exact zreti X hr hlk hW h dX10_sheet_21
    · replace h := h.2 c
      refine lv_iload_n hx hb dX10_sheet_7 rfl (lv_at hl 2 rfl) ?_
      refine zcalli (zrunS (As := [.int a2]) (rest := []) X hml hl hW zk_Main_340 (c_Main_isLane  h) rfl ⟨Nat.le_of_ble_eq_true rfl, Nat.le_of_ble_eq_true rfl⟩ ⟨Nat.le_refl 0, Nat.le_refl 0⟩ rfl (Nat.le_of_ble_eq_true rfl) dX10_sheet_8) hW (fun zr4 zm3 H locs h hW => ?_)
      refine lv_if_eq (tgt := 20) hx hb dX10_sheet_11 rfl (fun c => ?_) (fun c => ?_)
      · replace h := h.1 c
        refine lv_iconst hx hb dX10_sheet_20 zc_im1 ?_
        exact zreti X hr hlk hW h dX10_sheet_21
      · replace h := h.2 c
        refine lv_iload_n hx hb dX10_sheet_14 rfl (lv_at hl 3 rfl) ?_
        refine lv_bipush hx hb dX10_sheet_15 zc_b40 ?_
        refine lv_icmp_le (tgt := 22) hx hb dX10_sheet_17 rfl (fun c => ?_) (fun c => ?_)
        · replace h := h.1 c
          refine lv_iload_n hx hb dX10_sheet_22 rfl (lv_at hl 3 rfl) ?_
          refine lv_if_ge (tgt := 29) hx hb dX10_sheet_23 rfl (fun c => ?_) (fun c => ?_)
          · replace h := h.1 c
            refine lv_aload_n hx hb dX10_sheet_29 rfl (lv_at hl 0 rfl) ?_
            refine zg_Main_sheets X hW h0 zu_479 dX10_sheet_30 ?_
            refine lv_iload_n hx hb dX10_sheet_33 rfl (lv_at hl 1 rfl) ?_
            obtain ⟨g, h⟩ := h
            refine zaald_Sheet X hW h0.2.2.2.1 g dX10_sheet_34 ?_
            refine lv_iload_n hx hb dX10_sheet_35 rfl (lv_at hl 2 rfl) ?_
            refine lv_iload_n hx hb dX10_sheet_36 rfl (lv_at hl 3 rfl) ?_
            refine zcallv (zrunV (As := [.int a2, .int a3]) (rest := []) X hml hl hW (h0.2.2.2.1.2 _ (zix_lt g)).1 rfl zk_Main_343 (c_Sheet_makeNew (h0.2.2.2.1.2 _ (zix_lt g)) h) rfl ⟨Nat.le_of_ble_eq_true rfl, Nat.le_of_ble_eq_true rfl⟩ ⟨Nat.le_refl 0, Nat.le_refl 0⟩ rfl (Nat.le_of_ble_eq_true rfl) dX10_sheet_37) hW (fun zm5 H locs h hW => ?_)
            refine lv_iconst hx hb dX10_sheet_40 zc_i1 ?_
            exact zreti X hr hlk hW h dX10_sheet_41
          · replace h := h.2 c
            refine lv_bipush hx hb dX10_sheet_26 zc_bm14 ?_
            exact zreti X hr hlk hW h dX10_sheet_28
        · replace h := h.2 c
          refine lv_iconst hx hb dX10_sheet_20 zc_im1 ?_
          exact zreti X hr hlk hW h dX10_sheet_21
  exact zMain s.heap [] ls hW hl
def wp_Main_lay (a1 : Int32) (a2 : Int32) (a3 : Int32) (M : zMem) (Q : Int32 → zMem → Prop) : Prop :=
  wp_Main_isSheet a1 M (fun zr2 zm1 => (¬ zr2 = 0 → vp_in a1 4 ∧ (¬ (zm1 (81 + 2 * ix a1) 0) = (-1) → (a2 < 0 → Q ((-12)) zm1) ∧ (¬ a2 < 0 → (a2 < (zm1 (81 + 2 * ix a1) 1) → wp_Sheet_put (81 + 2 * ix a1) a2 a3 zm1 (fun zm3 => Q 1 zm3)) ∧ (¬ a2 < (zm1 (81 + 2 * ix a1) 1) → Q ((-12)) zm1))) ∧ ((zm1 (81 + 2 * ix a1) 0) = (-1) → Q ((-11)) zm1)) ∧ (zr2 = 0 → Q ((-1)) zm1))
set_option maxHeartbeats 4000000 in
set_option maxRecDepth 20000 in
theorem c_Main_lay {l : Launch} {w : zWd} {a1 : Int32} {a2 : Int32} {a3 : Int32} {M : zMem} {post : Int32 → zMem → Prop} (h0 : zI_Main w) (h : wp_Main_lay a1 a2 a3 M post) : zMi l ⟨"HandToHand", "lay", "(III)I"⟩ prog_1_method_33_code 5 (Option.some .int) 1 22 w [.ref (zad w 0), .int a1, .int a2, .int a3] M post := by
  refine zMet (by decide) (Nat.le_of_ble_eq_true rfl) ?_
  intro p e s m below meth c X hr hlk hml hW ls hl
  have hx := X.1
  have hb := X.2.1
  have hl : lv_has ls 5 [(0, .ref (zad w 0)), (1, .int a1), (2, .int a2), (3, .int a3)] := hl
  unfold wp_Main_lay at h
  have zMain : ∀ (H : Heap) (locs : List Loc) (ls : Array Slot), zWo w s.heap M H locs → lv_has ls 5 [(0, .ref (zad w 0)), (1, .int a1), (2, .int a2), (3, .int a3)] → W p l e (zRm 1 22) s m ([.ref (zad w 0), .int a1, .int a2, .int a3] : List Value).toArray below meth c H locs 0 0 (MQ below (va_Qi post (zB w) (zA w)) ([.ref (zad w 0), .int a1, .int a2, .int a3] : List Value).toArray s 0 0 (zA w)) (F0 m 0 ls []) := by
    intro H locs ls hW hl
    refine lv_iload_n hx hb dX10_lay_0 rfl (lv_at hl 1 rfl) ?_
    refine zcalli (zrunS (As := [.int a1]) (rest := []) X hml hl hW zk_Main_337 (c_Main_isSheet  h) rfl ⟨Nat.le_of_ble_eq_true rfl, Nat.le_of_ble_eq_true rfl⟩ ⟨Nat.le_refl 0, Nat.le_refl 0⟩ rfl (Nat.le_of_ble_eq_true rfl) dX10_lay_1) hW (fun zr2 zm1 H locs h hW => ?_)
    refine lv_if_ne (tgt := 9) hx hb dX10_lay_4 rfl (fun c => ?_) (fun c => ?_)
    · replace h := h.1 c
      refine lv_aload_n hx hb dX10_lay_9 rfl (lv_at hl 0 rfl) ?_
      refine zg_Main_sheets X hW h0 zu_479 dX10_lay_10 ?_
      refine lv_iload_n hx hb dX10_lay_13 rfl (lv_at hl 1 rfl) ?_
      obtain ⟨g, h⟩ := h
      refine zaald_Sheet X hW h0.2.2.2.1 g dX10_lay_14 ?_
      refine lv_astore (lv' := [(4, .ref (zad w (81 + 2 * ix a1))), (0, .ref (zad w 0)), (1, .int a1), (2, .int a2), (3, .int a3)]) hx hb dX10_lay_15 hl (Nat.le_of_ble_eq_true rfl) rfl (fun ls hl => ?_)
      refine lv_aload hx hb dX10_lay_17 (lv_at hl 0 rfl) ?_
      refine zg_Sheet_lane X hW (h0.2.2.2.1.2 _ (zix_lt g)) zu_390 dX10_lay_19 ?_
      refine lv_iconst hx hb dX10_lay_22 zc_im1 ?_
      refine lv_icmp_ne (tgt := 29) hx hb dX10_lay_23 rfl (fun c => ?_) (fun c => ?_)
      · replace h := h.1 c
        refine lv_iload_n hx hb dX10_lay_29 rfl (lv_at hl 3 rfl) ?_
        refine lv_if_lt (tgt := 42) hx hb dX10_lay_30 rfl (fun c => ?_) (fun c => ?_)
        · replace h := h.1 c
          refine lv_bipush hx hb dX10_lay_42 zc_bm12 ?_
          exact zreti X hr hlk hW h dX10_lay_44
        · replace h := h.2 c
          refine lv_iload_n hx hb dX10_lay_33 rfl (lv_at hl 3 rfl) ?_
          refine lv_aload hx hb dX10_lay_34 (lv_at hl 0 rfl) ?_
          refine zg_Sheet_size X hW (h0.2.2.2.1.2 _ (zix_lt g)) zu_392 dX10_lay_36 ?_
          refine lv_icmp_lt (tgt := 45) hx hb dX10_lay_39 rfl (fun c => ?_) (fun c => ?_)
          · replace h := h.1 c
            refine lv_aload hx hb dX10_lay_45 (lv_at hl 0 rfl) ?_
            refine lv_iload_n hx hb dX10_lay_47 rfl (lv_at hl 3 rfl) ?_
            refine lv_iload_n hx hb dX10_lay_48 rfl (lv_at hl 4 rfl) ?_
            refine zcallv (zrunV (As := [.int a2, .int a3]) (rest := []) X hml hl hW (h0.2.2.2.1.2 _ (zix_lt g)).1 rfl zk_Main_350 (c_Sheet_put (h0.2.2.2.1.2 _ (zix_lt g)) h) rfl ⟨Nat.le_of_ble_eq_true rfl, Nat.le_of_ble_eq_true rfl⟩ ⟨Nat.le_refl 0, Nat.le_refl 0⟩ rfl (Nat.le_of_ble_eq_true rfl) dX10_lay_49) hW (fun zm3 H locs h hW => ?_)
            refine lv_iconst hx hb dX10_lay_52 zc_i1 ?_
            exact zreti X hr hlk hW h dX10_lay_53
          · replace h := h.2 c
            refine lv_bipush hx hb dX10_lay_42 zc_bm12 ?_
            exact zreti X hr hlk hW h dX10_lay_44
      · replace h := h.2 c
        refine lv_bipush hx hb dX10_lay_26 zc_bm11 ?_
        exact zreti X hr hlk hW h dX10_lay_28
    · replace h := h.2 c
      refine lv_iconst hx hb dX10_lay_7 zc_im1 ?_
      exact zreti X hr hlk hW h dX10_lay_8
  exact zMain s.heap [] ls hW hl
def wpB_Main_hasPacesAlone_2 (t1 : Nat) (a2 : Int32)   (Q : Int32 → zMem → Prop) (J : Int32 → zMem → Prop) (x_3 : Int32) (M : zMem) : Prop :=
  ((M 1 0) ≤ x_3 → Q 1 M) ∧ (¬ (M 1 0) ≤ x_3 → vp_in (a2 + x_3) 40 ∧ wp_Main_isPace (M (t1 + 1) (ix (a2 + x_3))) M (fun zr2 zm1 => (¬ zr2 = 0 → ∀ zx3 : Int32, zx3 = x_3 + 1 → J zx3 zm1) ∧ (zr2 = 0 → Q 0 zm1)))
def wp_Main_hasPacesAlone (t1 : Nat) (a2 : Int32) (M : zMem) (Q : Int32 → zMem → Prop) : Prop :=
  ∃ n : Nat, zlp1 (wpB_Main_hasPacesAlone_2 t1 a2   Q) n 0 M
set_option maxHeartbeats 4000000 in
set_option maxRecDepth 20000 in
theorem c_Main_hasPacesAlone {l : Launch} {w : zWd} {t1 : Nat} {a2 : Int32} {M : zMem} {post : Int32 → zMem → Prop} (h0 : zI_Main w) (h1 : zI_Sheet w t1) (h : wp_Main_hasPacesAlone t1 a2 M post) : zMi l ⟨"HandToHand", "hasPacesAlone", "(LHandToHand$Sheet;I)Z"⟩ prog_1_method_52_code 4 (Option.some .boolean) 1 20 w [.ref (zad w 0), .ref (zad w t1), .int a2] M post := by
  refine zMet (by decide) (Nat.le_of_ble_eq_true rfl) ?_
  intro p e s m below meth c X hr hlk hml hW ls hl
  have hx := X.1
  have hb := X.2.1
  have hl : lv_has ls 4 [(0, .ref (zad w 0)), (1, .ref (zad w t1)), (2, .int a2)] := hl
  have zL_2 :  ∀ (n : Nat) (x_3 : Int32) (M : zMem) (H : Heap) (locs : List Loc) (ls : Array Slot), zWo w s.heap M H locs → lv_has ls 4 [(0, .ref (zad w 0)), (1, .ref (zad w t1)), (2, .int a2), (3, .int x_3)] → zlp1 (wpB_Main_hasPacesAlone_2 t1 a2   post) n x_3 M → W p l e (zRm 1 20) s m ([.ref (zad w 0), .ref (zad w t1), .int a2] : List Value).toArray below meth c H locs 0 0 (MQ below (va_Qi post (zB w) (zA w)) ([.ref (zad w 0), .ref (zad w t1), .int a2] : List Value).toArray s 0 0 (zA w)) (F0 m 2 ls []) := by
    intro n
    induction n with
    | zero => intro x_3 M H locs ls hW hl h; exact h.elim
    | succ n zJ =>
      intro x_3 M H locs ls hW hl h
      have h : wpB_Main_hasPacesAlone_2 t1 a2   post (zlp1 (wpB_Main_hasPacesAlone_2 t1 a2   post) n) x_3 M := h
      unfold wpB_Main_hasPacesAlone_2 at h
      refine lv_iload_n hx hb dX10_hasPacesAlone_2 rfl (lv_at hl 3 rfl) ?_
      refine lv_aload_n hx hb dX10_hasPacesAlone_3 rfl (lv_at hl 0 rfl) ?_
      refine zg_Main_told X hW h0 zu_467 dX10_hasPacesAlone_4 ?_
      refine zg_Told_pieces X hW h0.2.2.2.2.1 zu_35 dX10_hasPacesAlone_7 ?_
      refine lv_icmp_ge (tgt := 35) hx hb dX10_hasPacesAlone_10 rfl (fun c => ?_) (fun c => ?_)
      · replace h := h.1 c
        refine lv_iconst hx hb dX10_hasPacesAlone_35 zc_i1 ?_
        exact zretz X hr hlk hW rfl h dX10_hasPacesAlone_36
      · replace h := h.2 c
        refine lv_aload_n hx hb dX10_hasPacesAlone_13 rfl (lv_at hl 1 rfl) ?_
        refine zg_Sheet_cells X hW h1 zu_394 dX10_hasPacesAlone_14 ?_
        refine lv_iload_n hx hb dX10_hasPacesAlone_17 rfl (lv_at hl 2 rfl) ?_
        refine lv_iload_n hx hb dX10_hasPacesAlone_18 rfl (lv_at hl 3 rfl) ?_
        refine lv_iadd hx hb dX10_hasPacesAlone_19 ?_
        obtain ⟨g, h⟩ := h
        refine ziald X hW h1.2 g dX10_hasPacesAlone_20 ?_
        refine zcalli (zrunS (As := [.int (M (t1 + 1) (ix (a2 + x_3)))]) (rest := []) X hml hl hW zk_Main_171 (c_Main_isPace  h) rfl ⟨Nat.le_of_ble_eq_true rfl, Nat.le_of_ble_eq_true rfl⟩ ⟨Nat.le_refl 0, Nat.le_refl 0⟩ rfl (Nat.le_of_ble_eq_true rfl) dX10_hasPacesAlone_21) hW (fun zr2 zm1 H locs h hW => ?_)
        refine lv_if_ne (tgt := 29) hx hb dX10_hasPacesAlone_24 rfl (fun c => ?_) (fun c => ?_)
        · replace h := h.1 c
          obtain ⟨zx3, ezx3⟩ : ∃ y : Int32, y = x_3 + 1 := ⟨_, rfl⟩
          replace h := h zx3 ezx3
          refine lv_iinc (v := zx3) (lv' := [(3, .int zx3), (0, .ref (zad w 0)), (1, .ref (zad w t1)), (2, .int a2)]) hx hb dX10_hasPacesAlone_29 hl (k := 3) rfl (by rw [ezx3, zc_i1]) (Nat.le_of_ble_eq_true rfl) rfl (fun ls hl => ?_)
          refine lv_goto (tgt := 2) hx hb dX10_hasPacesAlone_32 rfl ?_
          exact zJ zx3 zm1 H locs ls hW (lv_sub hl [1, 2, 3, 0] rfl) h
        · replace h := h.2 c
          refine lv_iconst hx hb dX10_hasPacesAlone_27 zc_i0 ?_
          exact zretz X hr hlk hW rfl h dX10_hasPacesAlone_28
  unfold wp_Main_hasPacesAlone at h
  have zMain : ∀ (H : Heap) (locs : List Loc) (ls : Array Slot), zWo w s.heap M H locs → lv_has ls 4 [(0, .ref (zad w 0)), (1, .ref (zad w t1)), (2, .int a2)] → W p l e (zRm 1 20) s m ([.ref (zad w 0), .ref (zad w t1), .int a2] : List Value).toArray below meth c H locs 0 0 (MQ below (va_Qi post (zB w) (zA w)) ([.ref (zad w 0), .ref (zad w t1), .int a2] : List Value).toArray s 0 0 (zA w)) (F0 m 0 ls []) := by
    intro H locs ls hW hl
    refine lv_iconst hx hb dX10_hasPacesAlone_0 zc_i0 ?_
    refine lv_istore_n (lv' := [(3, .int 0), (0, .ref (zad w 0)), (1, .ref (zad w t1)), (2, .int a2)]) hx hb dX10_hasPacesAlone_1 rfl hl (Nat.le_of_ble_eq_true rfl) rfl (fun ls hl => ?_)
    obtain ⟨n, h⟩ := h
    refine zL_2   n 0 M H locs ls hW (lv_sub hl [1, 2, 3, 0] rfl) h
  exact zMain s.heap [] ls hW hl
def wpB_Main_copyPaces_3 (t1 : Nat) (a2 : Int32) (a3 : Int32)   (Q : zMem → Prop) (J : Int32 → zMem → Prop) (x_4 : Int32) (M : zMem) : Prop :=
  ((M 1 0) ≤ x_4 → Q M) ∧ (¬ (M 1 0) ≤ x_4 → vp_in (a2 + x_4) 40 ∧ vp_in ((a3 * 8) + x_4) 40 ∧ ∀ zm1 : zMem, zm1 = zup M 4 (ix ((a3 * 8) + x_4)) (M (t1 + 1) (ix (a2 + x_4))) → ∀ zx2 : Int32, zx2 = x_4 + 1 → J zx2 zm1)
def wp_Main_copyPaces (t1 : Nat) (a2 : Int32) (a3 : Int32) (M : zMem) (Q : zMem → Prop) : Prop :=
  ∃ n : Nat, zlp1 (wpB_Main_copyPaces_3 t1 a2 a3   Q) n 0 M
set_option maxHeartbeats 4000000 in
set_option maxRecDepth 20000 in
theorem c_Main_copyPaces {l : Launch} {w : zWd} {t1 : Nat} {a2 : Int32} {a3 : Int32} {M : zMem} {post : zMem → Prop} (h0 : zI_Main w) (h1 : zI_Sheet w t1) (h : wp_Main_copyPaces t1 a2 a3 M post) : zMv l ⟨"HandToHand", "copyPaces", "(LHandToHand$Sheet;II)V"⟩ prog_1_method_53_code 5 none 0 0 w [.ref (zad w 0), .ref (zad w t1), .int a2, .int a3] M post := by
  refine zMet (by decide) (Nat.le_of_ble_eq_true rfl) ?_
  intro p e s m below meth c X hr hlk hml hW ls hl
  have hx := X.1
  have hb := X.2.1
  have hl : lv_has ls 5 [(0, .ref (zad w 0)), (1, .ref (zad w t1)), (2, .int a2), (3, .int a3)] := hl
  have zL_3 :  ∀ (n : Nat) (x_4 : Int32) (M : zMem) (H : Heap) (locs : List Loc) (ls : Array Slot), zWo w s.heap M H locs → lv_has ls 5 [(0, .ref (zad w 0)), (1, .ref (zad w t1)), (2, .int a2), (3, .int a3), (4, .int x_4)] → zlp1 (wpB_Main_copyPaces_3 t1 a2 a3   post) n x_4 M → W p l e (zRm 0 0) s m ([.ref (zad w 0), .ref (zad w t1), .int a2, .int a3] : List Value).toArray below meth c H locs 0 0 (MQ below (va_Qv post (zB w) (zA w)) ([.ref (zad w 0), .ref (zad w t1), .int a2, .int a3] : List Value).toArray s 0 0 (zA w)) (F0 m 3 ls []) := by
    intro n
    induction n with
    | zero => intro x_4 M H locs ls hW hl h; exact h.elim
    | succ n zJ =>
      intro x_4 M H locs ls hW hl h
      have h : wpB_Main_copyPaces_3 t1 a2 a3   post (zlp1 (wpB_Main_copyPaces_3 t1 a2 a3   post) n) x_4 M := h
      unfold wpB_Main_copyPaces_3 at h
      refine lv_iload hx hb dX10_copyPaces_3 (lv_at hl 4 rfl) ?_
      refine lv_aload_n hx hb dX10_copyPaces_5 rfl (lv_at hl 0 rfl) ?_
      refine zg_Main_told X hW h0 zu_467 dX10_copyPaces_6 ?_
      refine zg_Told_pieces X hW h0.2.2.2.2.1 zu_35 dX10_copyPaces_9 ?_
      refine lv_icmp_ge (tgt := 45) hx hb dX10_copyPaces_12 rfl (fun c => ?_) (fun c => ?_)
      · replace h := h.1 c
        exact zretv X hr hlk hW h dX10_copyPaces_45
      · replace h := h.2 c
        refine lv_aload_n hx hb dX10_copyPaces_15 rfl (lv_at hl 0 rfl) ?_
        refine zg_Main_told X hW h0 zu_467 dX10_copyPaces_16 ?_
        refine zg_Told_paces X hW h0.2.2.2.2.1 zu_66 dX10_copyPaces_19 ?_
        refine lv_iload_n hx hb dX10_copyPaces_22 rfl (lv_at hl 3 rfl) ?_
        refine lv_bipush hx hb dX10_copyPaces_23 zc_b8 ?_
        refine lv_imul hx hb dX10_copyPaces_25 ?_
        refine lv_iload hx hb dX10_copyPaces_26 (lv_at hl 4 rfl) ?_
        refine lv_iadd hx hb dX10_copyPaces_28 ?_
        refine lv_aload_n hx hb dX10_copyPaces_29 rfl (lv_at hl 1 rfl) ?_
        refine zg_Sheet_cells X hW h1 zu_394 dX10_copyPaces_30 ?_
        refine lv_iload_n hx hb dX10_copyPaces_33 rfl (lv_at hl 2 rfl) ?_
        refine lv_iload hx hb dX10_copyPaces_34 (lv_at hl 4 rfl) ?_
        refine lv_iadd hx hb dX10_copyPaces_36 ?_
        obtain ⟨g, h⟩ := h
        refine ziald X hW h1.2 g dX10_copyPaces_37 ?_
        obtain ⟨g, h⟩ := h
        refine ziast X hW h0.2.2.2.2.1.2.2.2.1 g dX10_copyPaces_38 (fun H locs zm1 ezm1 hW => ?_)
        replace h := h zm1 ezm1
        obtain ⟨zx2, ezx2⟩ : ∃ y : Int32, y = x_4 + 1 := ⟨_, rfl⟩
        replace h := h zx2 ezx2
        refine lv_iinc (v := zx2) (lv' := [(4, .int zx2), (0, .ref (zad w 0)), (1, .ref (zad w t1)), (2, .int a2), (3, .int a3)]) hx hb dX10_copyPaces_39 hl (k := 4) rfl (by rw [ezx2, zc_i1]) (Nat.le_of_ble_eq_true rfl) rfl (fun ls hl => ?_)
        refine lv_goto (tgt := 3) hx hb dX10_copyPaces_42 rfl ?_
        exact zJ zx2 zm1 H locs ls hW (lv_sub hl [1, 2, 3, 4, 0] rfl) h
  unfold wp_Main_copyPaces at h
  have zMain : ∀ (H : Heap) (locs : List Loc) (ls : Array Slot), zWo w s.heap M H locs → lv_has ls 5 [(0, .ref (zad w 0)), (1, .ref (zad w t1)), (2, .int a2), (3, .int a3)] → W p l e (zRm 0 0) s m ([.ref (zad w 0), .ref (zad w t1), .int a2, .int a3] : List Value).toArray below meth c H locs 0 0 (MQ below (va_Qv post (zB w) (zA w)) ([.ref (zad w 0), .ref (zad w t1), .int a2, .int a3] : List Value).toArray s 0 0 (zA w)) (F0 m 0 ls []) := by
    intro H locs ls hW hl
    refine lv_iconst hx hb dX10_copyPaces_0 zc_i0 ?_
    refine lv_istore (lv' := [(4, .int 0), (0, .ref (zad w 0)), (1, .ref (zad w t1)), (2, .int a2), (3, .int a3)]) hx hb dX10_copyPaces_1 hl (Nat.le_of_ble_eq_true rfl) rfl (fun ls hl => ?_)
    obtain ⟨n, h⟩ := h
    refine zL_3   n 0 M H locs ls hW (lv_sub hl [1, 2, 3, 4, 0] rfl) h
  exact zMain s.heap [] ls hW hl
def wpB_Main_read_116 (a1 : Int32) (a2 : Int32) (a3 : Int32) (a4 : Int32) (a5 : Int32) (x_6 : Nat) (x_7 : Int32) (x_8 : Int32) (K156 : zMem → Prop) (Q : Int32 → zMem → Prop) (J : Int32 → zMem → Prop) (x_9 : Int32) (M : zMem) : Prop :=
  (x_8 ≤ x_9 → K156 M) ∧ (¬ x_8 ≤ x_9 → wp_Main_hasPacesAlone x_6 (a3 + (x_9 * (M 1 0))) M (fun zr10 zm9 => (¬ zr10 = 0 → ∀ zx11 : Int32, zx11 = x_9 + 1 → J zx11 zm9) ∧ (zr10 = 0 → Q (((-20)) - x_9) zm9)))
def wpB_Main_read_159 (a1 : Int32) (a2 : Int32) (a3 : Int32) (a4 : Int32) (a5 : Int32) (x_6 : Nat) (x_7 : Int32) (x_8 : Int32)  (Q : Int32 → zMem → Prop) (J : Int32 → zMem → Prop) (x_9 : Int32) (M : zMem) : Prop :=
  (x_8 ≤ x_9 → ∀ zm13 : zMem, zm13 = zup M 0 13 x_7 → (x_8 ≤ 0 → Q x_8 zm13) ∧ (¬ x_8 ≤ 0 → wp_Main_forgetAnswers zm13 (fun zm14 => Q x_8 zm14))) ∧ (¬ x_8 ≤ x_9 → wp_Main_copyPaces x_6 (a3 + (x_9 * (M 1 0))) (a4 + x_9) M (fun zm16 => ∀ zx18 : Int32, zx18 = x_9 + 1 → J zx18 zm16))
def wpJ_Main_read_70 (a1 : Int32) (a2 : Int32) (a3 : Int32) (a4 : Int32) (a5 : Int32)  (Q : Int32 → zMem → Prop) (x_6 : Nat) (s_0 : Int32) (M : zMem) : Prop :=
  (s_0 = 0 → wp_Sheet_wholeRows x_6 a3 (M 1 0) a5 M (fun zr8 zm7 => (¬ s_0 = 0 → ∃ n : Nat, zlp1 (wpB_Main_read_116 a1 a2 a3 a4 a5 x_6 s_0 zr8 (fun (zm12 : zMem) => ∃ n : Nat, zlp1 (wpB_Main_read_159 a1 a2 a3 a4 a5 x_6 s_0 zr8  Q) n 0 zm12) Q) n 0 zm7) ∧ (s_0 = 0 → (a5 ≤ zr8 → ∃ n : Nat, zlp1 (wpB_Main_read_116 a1 a2 a3 a4 a5 x_6 s_0 zr8 (fun (zm19 : zMem) => ∃ n : Nat, zlp1 (wpB_Main_read_159 a1 a2 a3 a4 a5 x_6 s_0 zr8  Q) n 0 zm19) Q) n 0 zm7) ∧ (¬ a5 ≤ zr8 → ∃ n : Nat, zlp1 (wpB_Main_read_116 a1 a2 a3 a4 a5 x_6 2 zr8 (fun (zm20 : zMem) => ∃ n : Nat, zlp1 (wpB_Main_read_159 a1 a2 a3 a4 a5 x_6 2 zr8  Q) n 0 zm20) Q) n 0 zm7)))) ∧ (¬ s_0 = 0 → (¬ s_0 = 0 → ∃ n : Nat, zlp1 (wpB_Main_read_116 a1 a2 a3 a4 a5 x_6 s_0 0 (fun (zm21 : zMem) => ∃ n : Nat, zlp1 (wpB_Main_read_159 a1 a2 a3 a4 a5 x_6 s_0 0  Q) n 0 zm21) Q) n 0 M) ∧ (s_0 = 0 → (a5 ≤ (0 : Int32) → ∃ n : Nat, zlp1 (wpB_Main_read_116 a1 a2 a3 a4 a5 x_6 s_0 0 (fun (zm22 : zMem) => ∃ n : Nat, zlp1 (wpB_Main_read_159 a1 a2 a3 a4 a5 x_6 s_0 0  Q) n 0 zm22) Q) n 0 M) ∧ (¬ a5 ≤ (0 : Int32) → ∃ n : Nat, zlp1 (wpB_Main_read_116 a1 a2 a3 a4 a5 x_6 2 0 (fun (zm23 : zMem) => ∃ n : Nat, zlp1 (wpB_Main_read_159 a1 a2 a3 a4 a5 x_6 2 0  Q) n 0 zm23) Q) n 0 M)))
def wp_Main_read (a1 : Int32) (a2 : Int32) (a3 : Int32) (a4 : Int32) (a5 : Int32) (M : zMem) (Q : Int32 → zMem → Prop) : Prop :=
  wp_Main_isSheet a1 M (fun zr2 zm1 => (zr2 = 0 → Q ((-1)) zm1) ∧ (¬ zr2 = 0 → wp_Main_isLane a2 zm1 (fun zr4 zm3 => (zr4 = 0 → Q ((-1)) zm3) ∧ (¬ zr4 = 0 → (a4 < 0 → Q ((-1)) zm3) ∧ (¬ a4 < 0 → (a5 < 0 → Q ((-1)) zm3) ∧ (¬ a5 < 0 → (5 < a5 → Q ((-1)) zm3) ∧ (¬ 5 < a5 → (a4 ≤ ((zm3 1 1) - a5) → vp_in a1 4 ∧ (¬ a5 = 0 → wp_Sheet_faultAs (81 + 2 * ix a1) a2 zm3 (fun zr6 zm5 => wpJ_Main_read_70 a1 a2 a3 a4 a5 Q (81 + 2 * ix a1) zr6 zm5)) ∧ (a5 = 0 → wpJ_Main_read_70 a1 a2 a3 a4 a5 Q (81 + 2 * ix a1) 0 zm3)) ∧ (¬ a4 ≤ ((zm3 1 1) - a5) → Q ((-1)) zm3))))))))
set_option maxHeartbeats 4000000 in
set_option maxRecDepth 20000 in
theorem c_Main_read {l : Launch} {w : zWd} {a1 : Int32} {a2 : Int32} {a3 : Int32} {a4 : Int32} {a5 : Int32} {M : zMem} {post : Int32 → zMem → Prop} (h0 : zI_Main w) (h : wp_Main_read a1 a2 a3 a4 a5 M post) : zMi l ⟨"HandToHand", "read", "(IIIII)I"⟩ prog_1_method_34_code 10 (Option.some .int) 2 43 w [.ref (zad w 0), .int a1, .int a2, .int a3, .int a4, .int a5] M post := by
  refine zMet (by decide) (Nat.le_of_ble_eq_true rfl) ?_
  intro p e s m below meth c X hr hlk hml hW ls hl
  have hx := X.1
  have hb := X.2.1
  have hl : lv_has ls 10 [(0, .ref (zad w 0)), (1, .int a1), (2, .int a2), (3, .int a3), (4, .int a4), (5, .int a5)] := hl
  have zL_116 : ∀ (x_6 : Nat) (hx_6 : zI_Sheet w x_6) (x_7 : Int32) (x_8 : Int32) (K156 : zMem → Prop) (zK156 : ∀ (M : zMem) (H : Heap) (locs : List Loc) (ls : Array Slot), zWo w s.heap M H locs → lv_has ls 10 [(0, .ref (zad w 0)), (3, .int a3), (4, .int a4), (6, .ref (zad w x_6)), (7, .int x_7), (8, .int x_8)] → K156 M → W p l e (zRm 2 43) s m ([.ref (zad w 0), .int a1, .int a2, .int a3, .int a4, .int a5] : List Value).toArray below meth c H locs 0 0 (MQ below (va_Qi post (zB w) (zA w)) ([.ref (zad w 0), .int a1, .int a2, .int a3, .int a4, .int a5] : List Value).toArray s 0 0 (zA w)) (F0 m 156 ls [])), ∀ (n : Nat) (x_9 : Int32) (M : zMem) (H : Heap) (locs : List Loc) (ls : Array Slot), zWo w s.heap M H locs → lv_has ls 10 [(0, .ref (zad w 0)), (3, .int a3), (4, .int a4), (6, .ref (zad w x_6)), (7, .int x_7), (8, .int x_8), (9, .int x_9)] → zlp1 (wpB_Main_read_116 a1 a2 a3 a4 a5 x_6 x_7 x_8 K156 post) n x_9 M → W p l e (zRm 2 43) s m ([.ref (zad w 0), .int a1, .int a2, .int a3, .int a4, .int a5] : List Value).toArray below meth c H locs 0 0 (MQ below (va_Qi post (zB w) (zA w)) ([.ref (zad w 0), .int a1, .int a2, .int a3, .int a4, .int a5] : List Value).toArray s 0 0 (zA w)) (F0 m 116 ls []) := by
    intro x_6 hx_6 x_7 x_8 K156 zK156 n
    induction n with
    | zero => intro x_9 M H locs ls hW hl h; exact h.elim
    | succ n zJ =>
      intro x_9 M H locs ls hW hl h
      have h : wpB_Main_read_116 a1 a2 a3 a4 a5 x_6 x_7 x_8 K156 post (zlp1 (wpB_Main_read_116 a1 a2 a3 a4 a5 x_6 x_7 x_8 K156 post) n) x_9 M := h
      unfold wpB_Main_read_116 at h
      refine lv_iload hx hb dX10_read_116 (lv_at hl 6 rfl) ?_
      refine lv_iload hx hb dX10_read_118 (lv_at hl 5 rfl) ?_
      refine lv_icmp_ge (tgt := 156) hx hb dX10_read_120 rfl (fun c => ?_) (fun c => ?_)
      · replace h := h.1 c
        exact zK156 M H locs ls hW (lv_sub hl [0, 1, 2, 3, 4, 5] rfl) h
      · replace h := h.2 c
        refine lv_aload_n hx hb dX10_read_123 rfl (lv_at hl 0 rfl) ?_
        refine lv_aload hx hb dX10_read_124 (lv_at hl 3 rfl) ?_
        refine lv_iload_n hx hb dX10_read_126 rfl (lv_at hl 1 rfl) ?_
        refine lv_iload hx hb dX10_read_127 (lv_at hl 6 rfl) ?_
        refine lv_aload_n hx hb dX10_read_129 rfl (lv_at hl 0 rfl) ?_
        refine zg_Main_told X hW h0 zu_467 dX10_read_130 ?_
        refine zg_Told_pieces X hW h0.2.2.2.2.1 zu_35 dX10_read_133 ?_
        refine lv_imul hx hb dX10_read_136 ?_
        refine lv_iadd hx hb dX10_read_137 ?_
        refine zcalli (zrunV (As := [.ref (zad w x_6), .int (a3 + (x_9 * (M 1 0)))]) (rest := []) X hml hl hW h0.1 rfl zk_Main_359 (c_Main_hasPacesAlone h0 hx_6 h) rfl ⟨Nat.le_of_ble_eq_true rfl, Nat.le_of_ble_eq_true rfl⟩ ⟨Nat.le_refl 0, Nat.le_refl 0⟩ rfl (Nat.le_of_ble_eq_true rfl) dX10_read_138) hW (fun zr10 zm9 H locs h hW => ?_)
        refine lv_if_ne (tgt := 150) hx hb dX10_read_141 rfl (fun c => ?_) (fun c => ?_)
        · replace h := h.1 c
          obtain ⟨zx11, ezx11⟩ : ∃ y : Int32, y = x_9 + 1 := ⟨_, rfl⟩
          replace h := h zx11 ezx11
          refine lv_iinc (v := zx11) (lv' := [(9, .int zx11), (0, .ref (zad w 0)), (3, .int a3), (4, .int a4), (6, .ref (zad w x_6)), (7, .int x_7), (8, .int x_8)]) hx hb dX10_read_150 hl (k := 6) rfl (by rw [ezx11, zc_i1]) (Nat.le_of_ble_eq_true rfl) rfl (fun ls hl => ?_)
          refine lv_goto (tgt := 116) hx hb dX10_read_153 rfl ?_
          exact zJ zx11 zm9 H locs ls hW (lv_sub hl [1, 2, 3, 4, 5, 6, 0] rfl) h
        · replace h := h.2 c
          refine lv_bipush hx hb dX10_read_144 zc_bm20 ?_
          refine lv_iload hx hb dX10_read_146 (lv_at hl 6 rfl) ?_
          refine lv_isub hx hb dX10_read_148 ?_
          exact zreti X hr hlk hW h dX10_read_149
  have zL_159 : ∀ (x_6 : Nat) (hx_6 : zI_Sheet w x_6) (x_7 : Int32) (x_8 : Int32), ∀ (n : Nat) (x_9 : Int32) (M : zMem) (H : Heap) (locs : List Loc) (ls : Array Slot), zWo w s.heap M H locs → lv_has ls 10 [(0, .ref (zad w 0)), (3, .int a3), (4, .int a4), (6, .ref (zad w x_6)), (7, .int x_7), (8, .int x_8), (9, .int x_9)] → zlp1 (wpB_Main_read_159 a1 a2 a3 a4 a5 x_6 x_7 x_8  post) n x_9 M → W p l e (zRm 2 43) s m ([.ref (zad w 0), .int a1, .int a2, .int a3, .int a4, .int a5] : List Value).toArray below meth c H locs 0 0 (MQ below (va_Qi post (zB w) (zA w)) ([.ref (zad w 0), .int a1, .int a2, .int a3, .int a4, .int a5] : List Value).toArray s 0 0 (zA w)) (F0 m 159 ls []) := by
    intro x_6 hx_6 x_7 x_8 n
    induction n with
    | zero => intro x_9 M H locs ls hW hl h; exact h.elim
    | succ n zJ =>
      intro x_9 M H locs ls hW hl h
      have h : wpB_Main_read_159 a1 a2 a3 a4 a5 x_6 x_7 x_8  post (zlp1 (wpB_Main_read_159 a1 a2 a3 a4 a5 x_6 x_7 x_8  post) n) x_9 M := h
      unfold wpB_Main_read_159 at h
      refine lv_iload hx hb dX10_read_159 (lv_at hl 6 rfl) ?_
      refine lv_iload hx hb dX10_read_161 (lv_at hl 5 rfl) ?_
      refine lv_icmp_ge (tgt := 195) hx hb dX10_read_163 rfl (fun c => ?_) (fun c => ?_)
      · replace h := h.1 c
        refine lv_aload_n hx hb dX10_read_195 rfl (lv_at hl 0 rfl) ?_
        refine lv_iload hx hb dX10_read_196 (lv_at hl 4 rfl) ?_
        refine zp_Main_latestTorn X hW h0 zu_480 dX10_read_198 (fun H locs zm13 ezm13 hW => ?_)
        replace h := h zm13 ezm13
        refine lv_iload hx hb dX10_read_201 (lv_at hl 5 rfl) ?_
        refine lv_if_le (tgt := 210) hx hb dX10_read_203 rfl (fun c => ?_) (fun c => ?_)
        · replace h := h.1 c
          refine lv_iload hx hb dX10_read_210 (lv_at hl 5 rfl) ?_
          exact zreti X hr hlk hW h dX10_read_212
        · replace h := h.2 c
          refine lv_aload_n hx hb dX10_read_206 rfl (lv_at hl 0 rfl) ?_
          refine zcallv (zrunV (As := []) (rest := []) X hml hl hW h0.1 rfl zk_Main_120 (c_Main_forgetAnswers h0 h) rfl ⟨Nat.le_of_ble_eq_true rfl, Nat.le_of_ble_eq_true rfl⟩ ⟨Nat.le_refl 0, Nat.le_refl 0⟩ rfl (Nat.le_of_ble_eq_true rfl) dX10_read_207) hW (fun zm14 H locs h hW => ?_)
          refine lv_iload hx hb dX10_read_210 (lv_at hl 5 rfl) ?_
          exact zreti X hr hlk hW h dX10_read_212
      · replace h := h.2 c
        refine lv_aload_n hx hb dX10_read_166 rfl (lv_at hl 0 rfl) ?_
        refine lv_aload hx hb dX10_read_167 (lv_at hl 3 rfl) ?_
        refine lv_iload_n hx hb dX10_read_169 rfl (lv_at hl 1 rfl) ?_
        refine lv_iload hx hb dX10_read_170 (lv_at hl 6 rfl) ?_
        refine lv_aload_n hx hb dX10_read_172 rfl (lv_at hl 0 rfl) ?_
        refine zg_Main_told X hW h0 zu_467 dX10_read_173 ?_
        refine zg_Told_pieces X hW h0.2.2.2.2.1 zu_35 dX10_read_176 ?_
        refine lv_imul hx hb dX10_read_179 ?_
        refine lv_iadd hx hb dX10_read_180 ?_
        refine lv_iload hx hb dX10_read_181 (lv_at hl 2 rfl) ?_
        refine lv_iload hx hb dX10_read_183 (lv_at hl 6 rfl) ?_
        refine lv_iadd hx hb dX10_read_185 ?_
        refine zcallv (zrunV (As := [.ref (zad w x_6), .int (a3 + (x_9 * (M 1 0))), .int (a4 + x_9)]) (rest := []) X hml hl hW h0.1 rfl zk_Main_363 (c_Main_copyPaces h0 hx_6 h) rfl ⟨Nat.le_of_ble_eq_true rfl, Nat.le_of_ble_eq_true rfl⟩ ⟨Nat.le_refl 0, Nat.le_refl 0⟩ rfl (Nat.le_of_ble_eq_true rfl) dX10_read_186) hW (fun zm16 H locs h hW => ?_)
        obtain ⟨zx18, ezx18⟩ : ∃ y : Int32, y = x_9 + 1 := ⟨_, rfl⟩
        replace h := h zx18 ezx18
        refine lv_iinc (v := zx18) (lv' := [(9, .int zx18), (0, .ref (zad w 0)), (3, .int a3), (4, .int a4), (6, .ref (zad w x_6)), (7, .int x_7), (8, .int x_8)]) hx hb dX10_read_189 hl (k := 6) rfl (by rw [ezx18, zc_i1]) (Nat.le_of_ble_eq_true rfl) rfl (fun ls hl => ?_)
        refine lv_goto (tgt := 159) hx hb dX10_read_192 rfl ?_
        exact zJ zx18 zm16 H locs ls hW (lv_sub hl [1, 2, 3, 4, 5, 6, 0] rfl) h
  have zJ_70 : ∀ (x_6 : Nat) (hx_6 : zI_Sheet w x_6) (s_0 : Int32) (M : zMem) (H : Heap) (locs : List Loc) (ls : Array Slot), zWo w s.heap M H locs → lv_has ls 10 [(0, .ref (zad w 0)), (3, .int a3), (4, .int a4), (5, .int a5), (6, .ref (zad w x_6))] → wpJ_Main_read_70 a1 a2 a3 a4 a5 post x_6 s_0 M → W p l e (zRm 2 43) s m ([.ref (zad w 0), .int a1, .int a2, .int a3, .int a4, .int a5] : List Value).toArray below meth c H locs 0 0 (MQ below (va_Qi post (zB w) (zA w)) ([.ref (zad w 0), .int a1, .int a2, .int a3, .int a4, .int a5] : List Value).toArray s 0 0 (zA w)) (F0 m 70 ls [.int s_0]) := by
    intro x_6 hx_6 s_0 M H locs ls hW hl h
    unfold wpJ_Main_read_70 at h
    refine lv_istore (lv' := [(7, .int s_0), (0, .ref (zad w 0)), (3, .int a3), (4, .int a4), (5, .int a5), (6, .ref (zad w x_6))]) hx hb dX10_read_70 hl (Nat.le_of_ble_eq_true rfl) rfl (fun ls hl => ?_)
    refine lv_iload hx hb dX10_read_72 (lv_at hl 0 rfl) ?_
    refine lv_if_eq (tgt := 81) hx hb dX10_read_74 rfl (fun c => ?_) (fun c => ?_)
    · replace h := h.1 c
      refine lv_aload hx hb dX10_read_81 (lv_at hl 5 rfl) ?_
      refine lv_iload_n hx hb dX10_read_83 rfl (lv_at hl 2 rfl) ?_
      refine lv_aload_n hx hb dX10_read_84 rfl (lv_at hl 1 rfl) ?_
      refine zg_Main_told X hW h0 zu_467 dX10_read_85 ?_
      refine zg_Told_pieces X hW h0.2.2.2.2.1 zu_35 dX10_read_88 ?_
      refine lv_iload hx hb dX10_read_91 (lv_at hl 4 rfl) ?_
      refine zcalli (zrunV (As := [.int a3, .int (M 1 0), .int a5]) (rest := []) X hml hl hW hx_6.1 rfl zk_Main_356 (c_Sheet_wholeRows hx_6 h) rfl ⟨Nat.le_of_ble_eq_true rfl, Nat.le_of_ble_eq_true rfl⟩ ⟨Nat.le_refl 0, Nat.le_refl 0⟩ rfl (Nat.le_of_ble_eq_true rfl) dX10_read_93) hW (fun zr8 zm7 H locs h hW => ?_)
      refine lv_istore (lv' := [(8, .int zr8), (7, .int s_0), (0, .ref (zad w 0)), (3, .int a3), (4, .int a4), (5, .int a5), (6, .ref (zad w x_6))]) hx hb dX10_read_96 hl (Nat.le_of_ble_eq_true rfl) rfl (fun ls hl => ?_)
      refine lv_iload hx hb dX10_read_98 (lv_at hl 1 rfl) ?_
      refine lv_if_ne (tgt := 113) hx hb dX10_read_100 rfl (fun c => ?_) (fun c => ?_)
      · replace h := h.1 c
        refine lv_iconst hx hb dX10_read_113 zc_i0 ?_
        refine lv_istore (lv' := [(9, .int 0), (8, .int zr8), (7, .int s_0), (0, .ref (zad w 0)), (3, .int a3), (4, .int a4), (5, .int a5), (6, .ref (zad w x_6))]) hx hb dX10_read_114 hl (Nat.le_of_ble_eq_true rfl) rfl (fun ls hl => ?_)
        obtain ⟨n, h⟩ := h
        refine zL_116 x_6 hx_6 s_0 zr8 _ (fun  zm12 H locs ls hW hl h => ?_) n 0 zm7 H locs ls hW (lv_sub hl [3, 4, 5, 7, 2, 1, 0] rfl) h
        · skip
          refine lv_iconst hx hb dX10_read_156 zc_i0 ?_
          refine lv_istore (lv' := [(9, .int 0), (0, .ref (zad w 0)), (3, .int a3), (4, .int a4), (6, .ref (zad w x_6)), (7, .int s_0), (8, .int zr8)]) hx hb dX10_read_157 hl (Nat.le_of_ble_eq_true rfl) rfl (fun ls hl => ?_)
          obtain ⟨n, h⟩ := h
          refine zL_159 x_6 hx_6 s_0 zr8  n 0 zm12 H locs ls hW (lv_sub hl [1, 2, 3, 4, 5, 6, 0] rfl) h
      · replace h := h.2 c
        refine lv_iload hx hb dX10_read_103 (lv_at hl 0 rfl) ?_
        refine lv_iload hx hb dX10_read_105 (lv_at hl 5 rfl) ?_
        refine lv_icmp_ge (tgt := 113) hx hb dX10_read_107 rfl (fun c => ?_) (fun c => ?_)
        · replace h := h.1 c
          refine lv_iconst hx hb dX10_read_113 zc_i0 ?_
          refine lv_istore (lv' := [(9, .int 0), (8, .int zr8), (7, .int s_0), (0, .ref (zad w 0)), (3, .int a3), (4, .int a4), (5, .int a5), (6, .ref (zad w x_6))]) hx hb dX10_read_114 hl (Nat.le_of_ble_eq_true rfl) rfl (fun ls hl => ?_)
          obtain ⟨n, h⟩ := h
          refine zL_116 x_6 hx_6 s_0 zr8 _ (fun  zm19 H locs ls hW hl h => ?_) n 0 zm7 H locs ls hW (lv_sub hl [3, 4, 5, 7, 2, 1, 0] rfl) h
          · skip
            refine lv_iconst hx hb dX10_read_156 zc_i0 ?_
            refine lv_istore (lv' := [(9, .int 0), (0, .ref (zad w 0)), (3, .int a3), (4, .int a4), (6, .ref (zad w x_6)), (7, .int s_0), (8, .int zr8)]) hx hb dX10_read_157 hl (Nat.le_of_ble_eq_true rfl) rfl (fun ls hl => ?_)
            obtain ⟨n, h⟩ := h
            refine zL_159 x_6 hx_6 s_0 zr8  n 0 zm19 H locs ls hW (lv_sub hl [1, 2, 3, 4, 5, 6, 0] rfl) h
        · replace h := h.2 c
          refine lv_iconst hx hb dX10_read_110 zc_i2 ?_
          refine lv_istore (lv' := [(7, .int 2), (8, .int zr8), (0, .ref (zad w 0)), (3, .int a3), (4, .int a4), (5, .int a5), (6, .ref (zad w x_6))]) hx hb dX10_read_111 hl (Nat.le_of_ble_eq_true rfl) rfl (fun ls hl => ?_)
          refine lv_iconst hx hb dX10_read_113 zc_i0 ?_
          refine lv_istore (lv' := [(9, .int 0), (7, .int 2), (8, .int zr8), (0, .ref (zad w 0)), (3, .int a3), (4, .int a4), (5, .int a5), (6, .ref (zad w x_6))]) hx hb dX10_read_114 hl (Nat.le_of_ble_eq_true rfl) rfl (fun ls hl => ?_)
          obtain ⟨n, h⟩ := h
          refine zL_116 x_6 hx_6 2 zr8 _ (fun  zm20 H locs ls hW hl h => ?_) n 0 zm7 H locs ls hW (lv_sub hl [3, 4, 5, 7, 1, 2, 0] rfl) h
          · skip
            refine lv_iconst hx hb dX10_read_156 zc_i0 ?_
            refine lv_istore (lv' := [(9, .int 0), (0, .ref (zad w 0)), (3, .int a3), (4, .int a4), (6, .ref (zad w x_6)), (7, .int 2), (8, .int zr8)]) hx hb dX10_read_157 hl (Nat.le_of_ble_eq_true rfl) rfl (fun ls hl => ?_)
            obtain ⟨n, h⟩ := h
            refine zL_159 x_6 hx_6 2 zr8  n 0 zm20 H locs ls hW (lv_sub hl [1, 2, 3, 4, 5, 6, 0] rfl) h
    · replace h := h.2 c
      refine lv_iconst hx hb dX10_read_77 zc_i0 ?_
      refine lv_goto (tgt := 96) hx hb dX10_read_78 rfl ?_
      refine lv_istore (lv' := [(8, .int 0), (7, .int s_0), (0, .ref (zad w 0)), (3, .int a3), (4, .int a4), (5, .int a5), (6, .ref (zad w x_6))]) hx hb dX10_read_96 hl (Nat.le_of_ble_eq_true rfl) rfl (fun ls hl => ?_)
      refine lv_iload hx hb dX10_read_98 (lv_at hl 1 rfl) ?_
      refine lv_if_ne (tgt := 113) hx hb dX10_read_100 rfl (fun c => ?_) (fun c => ?_)
      · replace h := h.1 c
        refine lv_iconst hx hb dX10_read_113 zc_i0 ?_
        refine lv_istore (lv' := [(9, .int 0), (8, .int 0), (7, .int s_0), (0, .ref (zad w 0)), (3, .int a3), (4, .int a4), (5, .int a5), (6, .ref (zad w x_6))]) hx hb dX10_read_114 hl (Nat.le_of_ble_eq_true rfl) rfl (fun ls hl => ?_)
        obtain ⟨n, h⟩ := h
        refine zL_116 x_6 hx_6 s_0 0 _ (fun  zm21 H locs ls hW hl h => ?_) n 0 M H locs ls hW (lv_sub hl [3, 4, 5, 7, 2, 1, 0] rfl) h
        · skip
          refine lv_iconst hx hb dX10_read_156 zc_i0 ?_
          refine lv_istore (lv' := [(9, .int 0), (0, .ref (zad w 0)), (3, .int a3), (4, .int a4), (6, .ref (zad w x_6)), (7, .int s_0), (8, .int 0)]) hx hb dX10_read_157 hl (Nat.le_of_ble_eq_true rfl) rfl (fun ls hl => ?_)
          obtain ⟨n, h⟩ := h
          refine zL_159 x_6 hx_6 s_0 0  n 0 zm21 H locs ls hW (lv_sub hl [1, 2, 3, 4, 5, 6, 0] rfl) h
      · replace h := h.2 c
        refine lv_iload hx hb dX10_read_103 (lv_at hl 0 rfl) ?_
        refine lv_iload hx hb dX10_read_105 (lv_at hl 5 rfl) ?_
        refine lv_icmp_ge (tgt := 113) hx hb dX10_read_107 rfl (fun c => ?_) (fun c => ?_)
        · replace h := h.1 c
          refine lv_iconst hx hb dX10_read_113 zc_i0 ?_
          refine lv_istore (lv' := [(9, .int 0), (8, .int 0), (7, .int s_0), (0, .ref (zad w 0)), (3, .int a3), (4, .int a4), (5, .int a5), (6, .ref (zad w x_6))]) hx hb dX10_read_114 hl (Nat.le_of_ble_eq_true rfl) rfl (fun ls hl => ?_)
          obtain ⟨n, h⟩ := h
          refine zL_116 x_6 hx_6 s_0 0 _ (fun  zm22 H locs ls hW hl h => ?_) n 0 M H locs ls hW (lv_sub hl [3, 4, 5, 7, 2, 1, 0] rfl) h
          · skip
            refine lv_iconst hx hb dX10_read_156 zc_i0 ?_
            refine lv_istore (lv' := [(9, .int 0), (0, .ref (zad w 0)), (3, .int a3), (4, .int a4), (6, .ref (zad w x_6)), (7, .int s_0), (8, .int 0)]) hx hb dX10_read_157 hl (Nat.le_of_ble_eq_true rfl) rfl (fun ls hl => ?_)
            obtain ⟨n, h⟩ := h
            refine zL_159 x_6 hx_6 s_0 0  n 0 zm22 H locs ls hW (lv_sub hl [1, 2, 3, 4, 5, 6, 0] rfl) h
        · replace h := h.2 c
          refine lv_iconst hx hb dX10_read_110 zc_i2 ?_
          refine lv_istore (lv' := [(7, .int 2), (8, .int 0), (0, .ref (zad w 0)), (3, .int a3), (4, .int a4), (5, .int a5), (6, .ref (zad w x_6))]) hx hb dX10_read_111 hl (Nat.le_of_ble_eq_true rfl) rfl (fun ls hl => ?_)
          refine lv_iconst hx hb dX10_read_113 zc_i0 ?_
          refine lv_istore (lv' := [(9, .int 0), (7, .int 2), (8, .int 0), (0, .ref (zad w 0)), (3, .int a3), (4, .int a4), (5, .int a5), (6, .ref (zad w x_6))]) hx hb dX10_read_114 hl (Nat.le_of_ble_eq_true rfl) rfl (fun ls hl => ?_)
          obtain ⟨n, h⟩ := h
          refine zL_116 x_6 hx_6 2 0 _ (fun  zm23 H locs ls hW hl h => ?_) n 0 M H locs ls hW (lv_sub hl [3, 4, 5, 7, 1, 2, 0] rfl) h
          · skip
            refine lv_iconst hx hb dX10_read_156 zc_i0 ?_
            refine lv_istore (lv' := [(9, .int 0), (0, .ref (zad w 0)), (3, .int a3), (4, .int a4), (6, .ref (zad w x_6)), (7, .int 2), (8, .int 0)]) hx hb dX10_read_157 hl (Nat.le_of_ble_eq_true rfl) rfl (fun ls hl => ?_)
            obtain ⟨n, h⟩ := h
            refine zL_159 x_6 hx_6 2 0  n 0 zm23 H locs ls hW (lv_sub hl [1, 2, 3, 4, 5, 6, 0] rfl) h
  unfold wp_Main_read at h
  have zMain : ∀ (H : Heap) (locs : List Loc) (ls : Array Slot), zWo w s.heap M H locs → lv_has ls 10 [(0, .ref (zad w 0)), (1, .int a1), (2, .int a2), (3, .int a3), (4, .int a4), (5, .int a5)] → W p l e (zRm 2 43) s m ([.ref (zad w 0), .int a1, .int a2, .int a3, .int a4, .int a5] : List Value).toArray below meth c H locs 0 0 (MQ below (va_Qi post (zB w) (zA w)) ([.ref (zad w 0), .int a1, .int a2, .int a3, .int a4, .int a5] : List Value).toArray s 0 0 (zA w)) (F0 m 0 ls []) := by
    intro H locs ls hW hl
    refine lv_iload_n hx hb dX10_read_0 rfl (lv_at hl 1 rfl) ?_
    refine zcalli (zrunS (As := [.int a1]) (rest := []) X hml hl hW zk_Main_337 (c_Main_isSheet  h) rfl ⟨Nat.le_of_ble_eq_true rfl, Nat.le_of_ble_eq_true rfl⟩ ⟨Nat.le_refl 0, Nat.le_refl 0⟩ rfl (Nat.le_of_ble_eq_true rfl) dX10_read_1) hW (fun zr2 zm1 H locs h hW => ?_)
    refine lv_if_eq (tgt := 45) hx hb dX10_read_4 rfl (fun c => ?_) (fun c => ?_)
    · replace h := h.1 c
      refine lv_iconst hx hb dX10_read_45 zc_im1 ?_
      exact zreti X hr hlk hW h dX10_read_46
    · replace h := h.2 c
      refine lv_iload_n hx hb dX10_read_7 rfl (lv_at hl 2 rfl) ?_
      refine zcalli (zrunS (As := [.int a2]) (rest := []) X hml hl hW zk_Main_340 (c_Main_isLane  h) rfl ⟨Nat.le_of_ble_eq_true rfl, Nat.le_of_ble_eq_true rfl⟩ ⟨Nat.le_refl 0, Nat.le_refl 0⟩ rfl (Nat.le_of_ble_eq_true rfl) dX10_read_8) hW (fun zr4 zm3 H locs h hW => ?_)
      refine lv_if_eq (tgt := 45) hx hb dX10_read_11 rfl (fun c => ?_) (fun c => ?_)
      · replace h := h.1 c
        refine lv_iconst hx hb dX10_read_45 zc_im1 ?_
        exact zreti X hr hlk hW h dX10_read_46
      · replace h := h.2 c
        refine lv_iload hx hb dX10_read_14 (lv_at hl 4 rfl) ?_
        refine lv_if_lt (tgt := 45) hx hb dX10_read_16 rfl (fun c => ?_) (fun c => ?_)
        · replace h := h.1 c
          refine lv_iconst hx hb dX10_read_45 zc_im1 ?_
          exact zreti X hr hlk hW h dX10_read_46
        · replace h := h.2 c
          refine lv_iload hx hb dX10_read_19 (lv_at hl 5 rfl) ?_
          refine lv_if_lt (tgt := 45) hx hb dX10_read_21 rfl (fun c => ?_) (fun c => ?_)
          · replace h := h.1 c
            refine lv_iconst hx hb dX10_read_45 zc_im1 ?_
            exact zreti X hr hlk hW h dX10_read_46
          · replace h := h.2 c
            refine lv_iload hx hb dX10_read_24 (lv_at hl 5 rfl) ?_
            refine lv_iconst hx hb dX10_read_26 zc_i5 ?_
            refine lv_icmp_gt (tgt := 45) hx hb dX10_read_27 rfl (fun c => ?_) (fun c => ?_)
            · replace h := h.1 c
              refine lv_iconst hx hb dX10_read_45 zc_im1 ?_
              exact zreti X hr hlk hW h dX10_read_46
            · replace h := h.2 c
              refine lv_iload hx hb dX10_read_30 (lv_at hl 4 rfl) ?_
              refine lv_aload_n hx hb dX10_read_32 rfl (lv_at hl 0 rfl) ?_
              refine zg_Main_told X hW h0 zu_467 dX10_read_33 ?_
              refine zg_Told_hands X hW h0.2.2.2.2.1 zu_41 dX10_read_36 ?_
              refine lv_iload hx hb dX10_read_39 (lv_at hl 5 rfl) ?_
              refine lv_isub hx hb dX10_read_41 ?_
              refine lv_icmp_le (tgt := 47) hx hb dX10_read_42 rfl (fun c => ?_) (fun c => ?_)
              · replace h := h.1 c
                refine lv_aload_n hx hb dX10_read_47 rfl (lv_at hl 0 rfl) ?_
                refine zg_Main_sheets X hW h0 zu_479 dX10_read_48 ?_
                refine lv_iload_n hx hb dX10_read_51 rfl (lv_at hl 1 rfl) ?_
                obtain ⟨g, h⟩ := h
                refine zaald_Sheet X hW h0.2.2.2.1 g dX10_read_52 ?_
                refine lv_astore (lv' := [(6, .ref (zad w (81 + 2 * ix a1))), (0, .ref (zad w 0)), (1, .int a1), (2, .int a2), (3, .int a3), (4, .int a4), (5, .int a5)]) hx hb dX10_read_53 hl (Nat.le_of_ble_eq_true rfl) rfl (fun ls hl => ?_)
                refine lv_iload hx hb dX10_read_55 (lv_at hl 6 rfl) ?_
                refine lv_if_ne (tgt := 64) hx hb dX10_read_57 rfl (fun c => ?_) (fun c => ?_)
                · replace h := h.1 c
                  refine lv_aload hx hb dX10_read_64 (lv_at hl 0 rfl) ?_
                  refine lv_iload_n hx hb dX10_read_66 rfl (lv_at hl 3 rfl) ?_
                  refine zcalli (zrunV (As := [.int a2]) (rest := []) X hml hl hW (h0.2.2.2.1.2 _ (zix_lt g)).1 rfl zk_Main_353 (c_Sheet_faultAs (h0.2.2.2.1.2 _ (zix_lt g)) h) rfl ⟨Nat.le_of_ble_eq_true rfl, Nat.le_of_ble_eq_true rfl⟩ ⟨Nat.le_refl 0, Nat.le_refl 0⟩ rfl (Nat.le_of_ble_eq_true rfl) dX10_read_67) hW (fun zr6 zm5 H locs h hW => ?_)
                  exact zJ_70 (81 + 2 * ix a1) (h0.2.2.2.1.2 _ (zix_lt g)) zr6 zm5 H locs ls hW (lv_sub hl [1, 4, 5, 6, 0] rfl) h
                · replace h := h.2 c
                  refine lv_iconst hx hb dX10_read_60 zc_i0 ?_
                  refine lv_goto (tgt := 70) hx hb dX10_read_61 rfl ?_
                  exact zJ_70 (81 + 2 * ix a1) (h0.2.2.2.1.2 _ (zix_lt g)) 0 zm3 H locs ls hW (lv_sub hl [1, 4, 5, 6, 0] rfl) h
              · replace h := h.2 c
                refine lv_iconst hx hb dX10_read_45 zc_im1 ?_
                exact zreti X hr hlk hW h dX10_read_46
  exact zMain s.heap [] ls hW hl
def wp_Main_torn  (M : zMem) (Q : Int32 → zMem → Prop) : Prop :=
  Q (M 0 13) M
set_option maxHeartbeats 4000000 in
set_option maxRecDepth 20000 in
theorem c_Main_torn {l : Launch} {w : zWd} {M : zMem} {post : Int32 → zMem → Prop} (h0 : zI_Main w) (h : wp_Main_torn  M post) : zMi l ⟨"HandToHand", "torn", "()I"⟩ prog_1_method_35_code 1 (Option.some .int) 0 0 w [.ref (zad w 0)] M post := by
  refine zMet (by decide) (Nat.le_of_ble_eq_true rfl) ?_
  intro p e s m below meth c X hr hlk hml hW ls hl
  have hx := X.1
  have hb := X.2.1
  have hl : lv_has ls 1 [(0, .ref (zad w 0))] := hl
  unfold wp_Main_torn at h
  have zMain : ∀ (H : Heap) (locs : List Loc) (ls : Array Slot), zWo w s.heap M H locs → lv_has ls 1 [(0, .ref (zad w 0))] → W p l e (zRm 0 0) s m ([.ref (zad w 0)] : List Value).toArray below meth c H locs 0 0 (MQ below (va_Qi post (zB w) (zA w)) ([.ref (zad w 0)] : List Value).toArray s 0 0 (zA w)) (F0 m 0 ls []) := by
    intro H locs ls hW hl
    refine lv_aload_n hx hb dX10_torn_0 rfl (lv_at hl 0 rfl) ?_
    refine zg_Main_latestTorn X hW h0 zu_480 dX10_torn_1 ?_
    exact zreti X hr hlk hW h dX10_torn_4
  exact zMain s.heap [] ls hW hl
def wp_Main_count (a1 : Int32) (M : zMem) (Q : Int32 → zMem → Prop) : Prop :=
  ∀ zx1 : Int32, zx1 = a1 → (zx1 = 0 → vp_in 0 2 ∧ ((M 28 (ix 0)) = 0 → vp_in 1 2 ∧ ((M 28 (ix 1)) = 0 → Q (0 + 0) M) ∧ (¬ (M 28 (ix 1)) = 0 → Q (0 + 1) M)) ∧ (¬ (M 28 (ix 0)) = 0 → vp_in 1 2 ∧ ((M 28 (ix 1)) = 0 → Q (1 + 0) M) ∧ (¬ (M 28 (ix 1)) = 0 → Q (1 + 1) M))) ∧ (zx1 = 1 → Q (M 11 5) M) ∧ (zx1 = 2 → vp_in 0 4 ∧ (¬ (M (81 + 2 * ix 0) 0) = (-1) → vp_in 0 4 ∧ Q (M (81 + 2 * ix 0) 1) M) ∧ ((M (81 + 2 * ix 0) 0) = (-1) → Q ((-4)) M)) ∧ (zx1 = 3 → wp_Main_numberOfOrders (M 1 1) M (fun zr3 zm2 => Q zr3 zm2)) ∧ (¬ zx1 = 0 → ¬ zx1 = 1 → ¬ zx1 = 2 → ¬ zx1 = 3 → Q ((-1)) M)
set_option maxHeartbeats 4000000 in
set_option maxRecDepth 20000 in
theorem c_Main_count {l : Launch} {w : zWd} {a1 : Int32} {M : zMem} {post : Int32 → zMem → Prop} (h0 : zI_Main w) (h : wp_Main_count a1 M post) : zMi l ⟨"HandToHand", "count", "(I)I"⟩ prog_1_method_36_code 2 (Option.some .int) 1 22 w [.ref (zad w 0), .int a1] M post := by
  refine zMet (by decide) (Nat.le_of_ble_eq_true rfl) ?_
  intro p e s m below meth c X hr hlk hml hW ls hl
  have hx := X.1
  have hb := X.2.1
  have hl : lv_has ls 2 [(0, .ref (zad w 0)), (1, .int a1)] := hl
  unfold wp_Main_count at h
  have zMain : ∀ (H : Heap) (locs : List Loc) (ls : Array Slot), zWo w s.heap M H locs → lv_has ls 2 [(0, .ref (zad w 0)), (1, .int a1)] → W p l e (zRm 1 22) s m ([.ref (zad w 0), .int a1] : List Value).toArray below meth c H locs 0 0 (MQ below (va_Qi post (zB w) (zA w)) ([.ref (zad w 0), .int a1] : List Value).toArray s 0 0 (zA w)) (F0 m 0 ls []) := by
    intro H locs ls hW hl
    refine lv_iload_n hx hb dX10_count_0 rfl (lv_at hl 1 rfl) ?_
    refine lv_topi (fun zx1 ezx1 => ?_)
    replace h := h zx1 ezx1
    by_cases c0 : zx1 = 0
    · replace h := h.1 c0
      refine lv_tableIn (off := 31) (tgt := 32) hx hb dX10_count_1 (by rw [c0]; decide) (by rw [c0]; decide) (by rw [c0]; rfl) rfl ?_
      refine lv_aload_n hx hb dX10_count_32 rfl (lv_at hl 0 rfl) ?_
      refine zg_Main_kept X hW h0 zu_472 dX10_count_33 ?_
      refine lv_iconst hx hb dX10_count_36 zc_i0 ?_
      obtain ⟨g, h⟩ := h
      refine zzald X hW h0.2.1 g dX10_count_37 ?_
      refine lv_if_eq (tgt := 45) hx hb dX10_count_38 rfl (fun c => ?_) (fun c => ?_)
      · replace h := h.1 c
        refine lv_iconst hx hb dX10_count_45 zc_i0 ?_
        refine lv_aload_n hx hb dX10_count_46 rfl (lv_at hl 0 rfl) ?_
        refine zg_Main_kept X hW h0 zu_472 dX10_count_47 ?_
        refine lv_iconst hx hb dX10_count_50 zc_i1 ?_
        obtain ⟨g, h⟩ := h
        refine zzald X hW h0.2.1 g dX10_count_51 ?_
        refine lv_if_eq (tgt := 59) hx hb dX10_count_52 rfl (fun c => ?_) (fun c => ?_)
        · replace h := h.1 c
          refine lv_iconst hx hb dX10_count_59 zc_i0 ?_
          refine lv_iadd hx hb dX10_count_60 ?_
          exact zreti X hr hlk hW h dX10_count_61
        · replace h := h.2 c
          refine lv_iconst hx hb dX10_count_55 zc_i1 ?_
          refine lv_goto (tgt := 60) hx hb dX10_count_56 rfl ?_
          refine lv_iadd hx hb dX10_count_60 ?_
          exact zreti X hr hlk hW h dX10_count_61
      · replace h := h.2 c
        refine lv_iconst hx hb dX10_count_41 zc_i1 ?_
        refine lv_goto (tgt := 46) hx hb dX10_count_42 rfl ?_
        refine lv_aload_n hx hb dX10_count_46 rfl (lv_at hl 0 rfl) ?_
        refine zg_Main_kept X hW h0 zu_472 dX10_count_47 ?_
        refine lv_iconst hx hb dX10_count_50 zc_i1 ?_
        obtain ⟨g, h⟩ := h
        refine zzald X hW h0.2.1 g dX10_count_51 ?_
        refine lv_if_eq (tgt := 59) hx hb dX10_count_52 rfl (fun c => ?_) (fun c => ?_)
        · replace h := h.1 c
          refine lv_iconst hx hb dX10_count_59 zc_i0 ?_
          refine lv_iadd hx hb dX10_count_60 ?_
          exact zreti X hr hlk hW h dX10_count_61
        · replace h := h.2 c
          refine lv_iconst hx hb dX10_count_55 zc_i1 ?_
          refine lv_goto (tgt := 60) hx hb dX10_count_56 rfl ?_
          refine lv_iadd hx hb dX10_count_60 ?_
          exact zreti X hr hlk hW h dX10_count_61
    replace h := h.2
    by_cases c1 : zx1 = 1
    · replace h := h.1 c1
      refine lv_tableIn (off := 61) (tgt := 62) hx hb dX10_count_1 (by rw [c1]; decide) (by rw [c1]; decide) (by rw [c1]; rfl) rfl ?_
      refine lv_aload_n hx hb dX10_count_62 rfl (lv_at hl 0 rfl) ?_
      refine zg_Main_reader X hW h0 zu_469 dX10_count_63 ?_
      refine zg_Reader_length X hW h0.2.2.2.2.2.2.1 zu_114 dX10_count_66 ?_
      exact zreti X hr hlk hW h dX10_count_69
    replace h := h.2
    by_cases c2 : zx1 = 2
    · replace h := h.1 c2
      refine lv_tableIn (off := 69) (tgt := 70) hx hb dX10_count_1 (by rw [c2]; decide) (by rw [c2]; decide) (by rw [c2]; rfl) rfl ?_
      refine lv_aload_n hx hb dX10_count_70 rfl (lv_at hl 0 rfl) ?_
      refine zg_Main_sheets X hW h0 zu_479 dX10_count_71 ?_
      refine lv_iconst hx hb dX10_count_74 zc_i0 ?_
      obtain ⟨g, h⟩ := h
      refine zaald_Sheet X hW h0.2.2.2.1 g dX10_count_75 ?_
      refine zg_Sheet_lane X hW (h0.2.2.2.1.2 _ (zix_lt g)) zu_390 dX10_count_76 ?_
      refine lv_iconst hx hb dX10_count_79 zc_im1 ?_
      refine lv_icmp_ne (tgt := 88) hx hb dX10_count_80 rfl (fun c => ?_) (fun c => ?_)
      · replace h := h.1 c
        refine lv_aload_n hx hb dX10_count_88 rfl (lv_at hl 0 rfl) ?_
        refine zg_Main_sheets X hW h0 zu_479 dX10_count_89 ?_
        refine lv_iconst hx hb dX10_count_92 zc_i0 ?_
        obtain ⟨g, h⟩ := h
        refine zaald_Sheet X hW h0.2.2.2.1 g dX10_count_93 ?_
        refine zg_Sheet_size X hW (h0.2.2.2.1.2 _ (zix_lt g)) zu_392 dX10_count_94 ?_
        exact zreti X hr hlk hW h dX10_count_97
      · replace h := h.2 c
        refine lv_bipush hx hb dX10_count_83 zc_bm4 ?_
        refine lv_goto (tgt := 97) hx hb dX10_count_85 rfl ?_
        exact zreti X hr hlk hW h dX10_count_97
    replace h := h.2
    by_cases c3 : zx1 = 3
    · replace h := h.1 c3
      refine lv_tableIn (off := 97) (tgt := 98) hx hb dX10_count_1 (by rw [c3]; decide) (by rw [c3]; decide) (by rw [c3]; rfl) rfl ?_
      refine lv_aload_n hx hb dX10_count_98 rfl (lv_at hl 0 rfl) ?_
      refine zg_Main_told X hW h0 zu_467 dX10_count_99 ?_
      refine zg_Told_hands X hW h0.2.2.2.2.1 zu_41 dX10_count_102 ?_
      refine zcalli (zrunS (As := [.int (M 1 1)]) (rest := []) X hml hl hW zk_Main_309 (c_Main_numberOfOrders  h) rfl ⟨Nat.le_of_ble_eq_true rfl, Nat.le_of_ble_eq_true rfl⟩ ⟨Nat.le_refl 0, Nat.le_refl 0⟩ rfl (Nat.le_of_ble_eq_true rfl) dX10_count_105) hW (fun zr3 zm2 H locs h hW => ?_)
      exact zreti X hr hlk hW h dX10_count_108
    replace h := h.2
    replace h := h c0 c1 c2 c3
    refine lv_tableOut (tgt := 109) hx hb dX10_count_1 (zsw 3 (Nat.le_of_ble_eq_true rfl) (fun j hj => ?_)) rfl ?_
    · rcases (show j = 0 ∨ j = 1 ∨ j = 2 ∨ j = 3 by omega) with rfl | rfl | rfl | rfl
      · exact c0
      · exact c1
      · exact c2
      · exact c3
    refine lv_iconst hx hb dX10_count_109 zc_im1 ?_
    exact zreti X hr hlk hW h dX10_count_110
  exact zMain s.heap [] ls hW hl
def wp_Model_in (a1 : Int64) (a2 : Int64) (a3 : Int64) (M : zMem) (Q : Int32 → zMem → Prop) : Prop :=
  ((lg_cmp a1 a2) < 0 → Q 0 M) ∧ (¬ (lg_cmp a1 a2) < 0 → (0 < (lg_cmp a1 a3) → Q 0 M) ∧ (¬ 0 < (lg_cmp a1 a3) → Q 1 M))
set_option maxHeartbeats 4000000 in
set_option maxRecDepth 20000 in
theorem c_Model_in {l : Launch} {w : zWd} {a1 : Int64} {a2 : Int64} {a3 : Int64} {M : zMem} {post : Int32 → zMem → Prop}  (h : wp_Model_in a1 a2 a3 M post) : zMi l ⟨"HandToHandModel", "in", "(JJJ)Z"⟩ prog_13_method_3_code 6 (Option.some .boolean) 0 0 w [.long a1, .long a2, .long a3] M post := by
  refine zMet (by decide) (Nat.le_of_ble_eq_true rfl) ?_
  intro p e s m below meth c X hr hlk hml hW ls hl
  have hx := X.1
  have hb := X.2.1
  have hl : lv_has ls 6 [(0, .long a1), (2, .long a2), (4, .long a3)] := hl
  unfold wp_Model_in at h
  have zMain : ∀ (H : Heap) (locs : List Loc) (ls : Array Slot), zWo w s.heap M H locs → lv_has ls 6 [(0, .long a1), (2, .long a2), (4, .long a3)] → W p l e (zRm 0 0) s m ([.long a1, .long a2, .long a3] : List Value).toArray below meth c H locs 0 0 (MQ below (va_Qi post (zB w) (zA w)) ([.long a1, .long a2, .long a3] : List Value).toArray s 0 0 (zA w)) (F0 m 0 ls []) := by
    intro H locs ls hW hl
    refine lv_lload_n hx hb dX11_in_0 rfl (lv_at hl 0 rfl) ?_
    refine lv_lload_n hx hb dX11_in_1 rfl (lv_at hl 1 rfl) ?_
    refine W.lcmp hx hb dX11_in_2 ?_
    refine lv_if_lt (tgt := 17) hx hb dX11_in_3 rfl (fun c => ?_) (fun c => ?_)
    · replace h := h.1 c
      refine lv_iconst hx hb dX11_in_17 zc_i0 ?_
      exact zretz X hr hlk hW rfl h dX11_in_18
    · replace h := h.2 c
      refine lv_lload_n hx hb dX11_in_6 rfl (lv_at hl 0 rfl) ?_
      refine lv_lload hx hb dX11_in_7 (lv_at hl 2 rfl) ?_
      refine W.lcmp hx hb dX11_in_9 ?_
      refine lv_if_gt (tgt := 17) hx hb dX11_in_10 rfl (fun c => ?_) (fun c => ?_)
      · replace h := h.1 c
        refine lv_iconst hx hb dX11_in_17 zc_i0 ?_
        exact zretz X hr hlk hW rfl h dX11_in_18
      · replace h := h.2 c
        refine lv_iconst hx hb dX11_in_13 zc_i1 ?_
        refine lv_goto (tgt := 18) hx hb dX11_in_14 rfl ?_
        exact zretz X hr hlk hW rfl h dX11_in_18
  exact zMain s.heap [] ls hW hl
def wpB_Model_feed_19 (a1 : Int64)   (Q : Int32 → zMem → Prop) (J : Int32 → zMem → Prop) (x_3 : Int32) (M : zMem) : Prop :=
  (x_3 < 0 → Q (M 0 1) M) ∧ (¬ x_3 < 0 → vp_in (M 0 1) 400 ∧ ∀ zm1 : zMem, zm1 = zup M 1 (ix (M 0 1)) (((a1 >>> (x_3.toInt64 &&& 63)).toInt32) &&& 255) → ∀ zm2 : zMem, zm2 = zup zm1 0 1 ((zm1 0 1) + 1) → ∀ zx3 : Int32, zx3 = x_3 + (-8) → J zx3 zm2)
def wp_Model_feed (a1 : Int64) (M : zMem) (Q : Int32 → zMem → Prop) : Prop :=
  (((M 0 1) + 8) ≤ 400 → ∃ n : Nat, zlp1 (wpB_Model_feed_19 a1   Q) n 56 M) ∧ (¬ ((M 0 1) + 8) ≤ 400 → Q ((-3)) M)
set_option maxHeartbeats 4000000 in
set_option maxRecDepth 20000 in
theorem c_Model_feed {l : Launch} {w : zWd} {a1 : Int64} {M : zMem} {post : Int32 → zMem → Prop} (h0 : zI_Model w) (h : wp_Model_feed a1 M post) : zMi l ⟨"HandToHandModel", "feed", "(J)I"⟩ prog_13_method_4_code 4 (Option.some .int) 0 0 w [.ref (zad w 0), .long a1] M post := by
  refine zMet (by decide) (Nat.le_of_ble_eq_true rfl) ?_
  intro p e s m below meth c X hr hlk hml hW ls hl
  have hx := X.1
  have hb := X.2.1
  have hl : lv_has ls 4 [(0, .ref (zad w 0)), (1, .long a1)] := hl
  have zL_19 :  ∀ (n : Nat) (x_3 : Int32) (M : zMem) (H : Heap) (locs : List Loc) (ls : Array Slot), zWo w s.heap M H locs → lv_has ls 4 [(0, .ref (zad w 0)), (1, .long a1), (3, .int x_3)] → zlp1 (wpB_Model_feed_19 a1   post) n x_3 M → W p l e (zRm 0 0) s m ([.ref (zad w 0), .long a1] : List Value).toArray below meth c H locs 0 0 (MQ below (va_Qi post (zB w) (zA w)) ([.ref (zad w 0), .long a1] : List Value).toArray s 0 0 (zA w)) (F0 m 19 ls []) := by
    intro n
    induction n with
    | zero => intro x_3 M H locs ls hW hl h; exact h.elim
    | succ n zJ =>
      intro x_3 M H locs ls hW hl h
      have h : wpB_Model_feed_19 a1   post (zlp1 (wpB_Model_feed_19 a1   post) n) x_3 M := h
      unfold wpB_Model_feed_19 at h
      refine lv_iload_n hx hb dX11_feed_19 rfl (lv_at hl 2 rfl) ?_
      refine lv_if_lt (tgt := 56) hx hb dX11_feed_20 rfl (fun c => ?_) (fun c => ?_)
      · replace h := h.1 c
        refine lv_aload_n hx hb dX11_feed_56 rfl (lv_at hl 0 rfl) ?_
        refine zg_Model_taped X hW h0 zu_1021 dX11_feed_57 ?_
        exact zreti X hr hlk hW h dX11_feed_60
      · replace h := h.2 c
        refine lv_aload_n hx hb dX11_feed_23 rfl (lv_at hl 0 rfl) ?_
        refine zg_Model_tape X hW h0 zu_1020 dX11_feed_24 ?_
        refine lv_aload_n hx hb dX11_feed_27 rfl (lv_at hl 0 rfl) ?_
        refine zg_Model_taped X hW h0 zu_1021 dX11_feed_28 ?_
        refine lv_lload_n hx hb dX11_feed_31 rfl (lv_at hl 1 rfl) ?_
        refine lv_iload_n hx hb dX11_feed_32 rfl (lv_at hl 2 rfl) ?_
        refine lv_lshr hx hb dX11_feed_33 rfl ?_
        refine lv_l2i hx hb dX11_feed_34 rfl ?_
        refine lv_sipush hx hb dX11_feed_35 zc_s255 ?_
        refine lv_iand hx hb dX11_feed_38 ?_
        obtain ⟨g, h⟩ := h
        refine ziast X hW h0.2.1 g dX11_feed_39 (fun H locs zm1 ezm1 hW => ?_)
        replace h := h zm1 ezm1
        refine lv_aload_n hx hb dX11_feed_40 rfl (lv_at hl 0 rfl) ?_
        refine lv_dup hx hb dX11_feed_41 rfl ?_
        refine zg_Model_taped X hW h0 zu_1021 dX11_feed_42 ?_
        refine lv_iconst hx hb dX11_feed_45 zc_i1 ?_
        refine lv_iadd hx hb dX11_feed_46 ?_
        refine zp_Model_taped X hW h0 zu_1021 dX11_feed_47 (fun H locs zm2 ezm2 hW => ?_)
        replace h := h zm2 ezm2
        obtain ⟨zx3, ezx3⟩ : ∃ y : Int32, y = x_3 + (-8) := ⟨_, rfl⟩
        replace h := h zx3 ezx3
        refine lv_iinc (v := zx3) (lv' := [(3, .int zx3), (0, .ref (zad w 0)), (1, .long a1)]) hx hb dX11_feed_50 hl (k := 2) rfl (by rw [ezx3, zc_im8]) (Nat.le_of_ble_eq_true rfl) rfl (fun ls hl => ?_)
        refine lv_goto (tgt := 19) hx hb dX11_feed_53 rfl ?_
        exact zJ zx3 zm2 H locs ls hW (lv_sub hl [1, 2, 0] rfl) h
  unfold wp_Model_feed at h
  have zMain : ∀ (H : Heap) (locs : List Loc) (ls : Array Slot), zWo w s.heap M H locs → lv_has ls 4 [(0, .ref (zad w 0)), (1, .long a1)] → W p l e (zRm 0 0) s m ([.ref (zad w 0), .long a1] : List Value).toArray below meth c H locs 0 0 (MQ below (va_Qi post (zB w) (zA w)) ([.ref (zad w 0), .long a1] : List Value).toArray s 0 0 (zA w)) (F0 m 0 ls []) := by
    intro H locs ls hW hl
    refine lv_aload_n hx hb dX11_feed_0 rfl (lv_at hl 0 rfl) ?_
    refine zg_Model_taped X hW h0 zu_1021 dX11_feed_1 ?_
    refine lv_bipush hx hb dX11_feed_4 zc_b8 ?_
    refine lv_iadd hx hb dX11_feed_6 ?_
    refine lv_sipush hx hb dX11_feed_7 zc_s400 ?_
    refine lv_icmp_le (tgt := 16) hx hb dX11_feed_10 rfl (fun c => ?_) (fun c => ?_)
    · replace h := h.1 c
      refine lv_bipush hx hb dX11_feed_16 zc_b56 ?_
      refine lv_istore_n (lv' := [(3, .int 56), (0, .ref (zad w 0)), (1, .long a1)]) hx hb dX11_feed_18 rfl hl (Nat.le_of_ble_eq_true rfl) rfl (fun ls hl => ?_)
      obtain ⟨n, h⟩ := h
      refine zL_19   n 56 M H locs ls hW (lv_sub hl [1, 2, 0] rfl) h
    · replace h := h.2 c
      refine lv_bipush hx hb dX11_feed_13 zc_bm3 ?_
      exact zreti X hr hlk hW h dX11_feed_15
  exact zMain s.heap [] ls hW hl
def wp_Model_end (a1 : Int32) (M : zMem) (Q : Int32 → zMem → Prop) : Prop :=
  wp_Model_in a1.toInt64 0 ((M 0 1).toInt64) M (fun zr2 zm1 => (¬ zr2 = 0 → ∀ zx3 : Int32, zx3 = zm1 0 1 → ∀ zm4 : zMem, zm4 = zup zm1 0 1 a1 → Q zx3 zm4) ∧ (zr2 = 0 → Q ((-1)) zm1))
set_option maxHeartbeats 4000000 in
set_option maxRecDepth 20000 in
theorem c_Model_end {l : Launch} {w : zWd} {a1 : Int32} {M : zMem} {post : Int32 → zMem → Prop} (h0 : zI_Model w) (h : wp_Model_end a1 M post) : zMi l ⟨"HandToHandModel", "end", "(I)I"⟩ prog_13_method_5_code 3 (Option.some .int) 1 25 w [.ref (zad w 0), .int a1] M post := by
  refine zMet (by decide) (Nat.le_of_ble_eq_true rfl) ?_
  intro p e s m below meth c X hr hlk hml hW ls hl
  have hx := X.1
  have hb := X.2.1
  have hl : lv_has ls 3 [(0, .ref (zad w 0)), (1, .int a1)] := hl
  unfold wp_Model_end at h
  have zMain : ∀ (H : Heap) (locs : List Loc) (ls : Array Slot), zWo w s.heap M H locs → lv_has ls 3 [(0, .ref (zad w 0)), (1, .int a1)] → W p l e (zRm 1 25) s m ([.ref (zad w 0), .int a1] : List Value).toArray below meth c H locs 0 0 (MQ below (va_Qi post (zB w) (zA w)) ([.ref (zad w 0), .int a1] : List Value).toArray s 0 0 (zA w)) (F0 m 0 ls []) := by
    intro H locs ls hW hl
    refine lv_iload_n hx hb dX11_end_0 rfl (lv_at hl 1 rfl) ?_
    refine lv_i2l hx hb dX11_end_1 rfl ?_
    refine lv_lconst hx hb dX11_end_2 zc_l0 ?_
    refine lv_aload_n hx hb dX11_end_3 rfl (lv_at hl 0 rfl) ?_
    refine zg_Model_taped X hW h0 zu_1021 dX11_end_4 ?_
    refine lv_i2l hx hb dX11_end_7 rfl ?_
    refine zcalli (zrunS (As := [.long a1.toInt64, .long 0, .long ((M 0 1).toInt64)]) (rest := []) X hml hl hW zk_Model_69 (c_Model_in  h) rfl ⟨Nat.le_of_ble_eq_true rfl, Nat.le_of_ble_eq_true rfl⟩ ⟨Nat.le_refl 0, Nat.le_refl 0⟩ rfl (Nat.le_of_ble_eq_true rfl) dX11_end_8) hW (fun zr2 zm1 H locs h hW => ?_)
    refine lv_if_ne (tgt := 16) hx hb dX11_end_11 rfl (fun c => ?_) (fun c => ?_)
    · replace h := h.1 c
      refine lv_aload_n hx hb dX11_end_16 rfl (lv_at hl 0 rfl) ?_
      refine zg_Model_taped X hW h0 zu_1021 dX11_end_17 ?_
      refine lv_topi (fun zx3 ezx3 => ?_)
      replace h := h zx3 ezx3
      refine lv_istore_n (lv' := [(2, .int zx3), (0, .ref (zad w 0)), (1, .int a1)]) hx hb dX11_end_20 rfl hl (Nat.le_of_ble_eq_true rfl) rfl (fun ls hl => ?_)
      refine lv_aload_n hx hb dX11_end_21 rfl (lv_at hl 1 rfl) ?_
      refine lv_iload_n hx hb dX11_end_22 rfl (lv_at hl 2 rfl) ?_
      refine zp_Model_taped X hW h0 zu_1021 dX11_end_23 (fun H locs zm4 ezm4 hW => ?_)
      replace h := h zm4 ezm4
      refine lv_iload_n hx hb dX11_end_26 rfl (lv_at hl 0 rfl) ?_
      exact zreti X hr hlk hW h dX11_end_27
    · replace h := h.2 c
      refine lv_iconst hx hb dX11_end_14 zc_im1 ?_
      exact zreti X hr hlk hW h dX11_end_15
  exact zMain s.heap [] ls hW hl
def wp_Model_byteAt (a1 : Int32) (M : zMem) (Q : Int32 → zMem → Prop) : Prop :=
  ((M 0 1) ≤ a1 → Q ((-4)) M) ∧ (¬ (M 0 1) ≤ a1 → vp_in a1 400 ∧ Q (M 1 (ix a1)) M)
set_option maxHeartbeats 4000000 in
set_option maxRecDepth 20000 in
theorem c_Model_byteAt {l : Launch} {w : zWd} {a1 : Int32} {M : zMem} {post : Int32 → zMem → Prop} (h0 : zI_Model w) (h : wp_Model_byteAt a1 M post) : zMi l ⟨"HandToHandModel", "byteAt", "(I)I"⟩ prog_13_method_6_code 2 (Option.some .int) 0 0 w [.ref (zad w 0), .int a1] M post := by
  refine zMet (by decide) (Nat.le_of_ble_eq_true rfl) ?_
  intro p e s m below meth c X hr hlk hml hW ls hl
  have hx := X.1
  have hb := X.2.1
  have hl : lv_has ls 2 [(0, .ref (zad w 0)), (1, .int a1)] := hl
  unfold wp_Model_byteAt at h
  have zMain : ∀ (H : Heap) (locs : List Loc) (ls : Array Slot), zWo w s.heap M H locs → lv_has ls 2 [(0, .ref (zad w 0)), (1, .int a1)] → W p l e (zRm 0 0) s m ([.ref (zad w 0), .int a1] : List Value).toArray below meth c H locs 0 0 (MQ below (va_Qi post (zB w) (zA w)) ([.ref (zad w 0), .int a1] : List Value).toArray s 0 0 (zA w)) (F0 m 0 ls []) := by
    intro H locs ls hW hl
    refine lv_iload_n hx hb dX11_byteAt_0 rfl (lv_at hl 1 rfl) ?_
    refine lv_aload_n hx hb dX11_byteAt_1 rfl (lv_at hl 0 rfl) ?_
    refine zg_Model_taped X hW h0 zu_1021 dX11_byteAt_2 ?_
    refine lv_icmp_ge (tgt := 17) hx hb dX11_byteAt_5 rfl (fun c => ?_) (fun c => ?_)
    · replace h := h.1 c
      refine lv_bipush hx hb dX11_byteAt_17 zc_bm4 ?_
      exact zreti X hr hlk hW h dX11_byteAt_19
    · replace h := h.2 c
      refine lv_aload_n hx hb dX11_byteAt_8 rfl (lv_at hl 0 rfl) ?_
      refine zg_Model_tape X hW h0 zu_1020 dX11_byteAt_9 ?_
      refine lv_iload_n hx hb dX11_byteAt_12 rfl (lv_at hl 1 rfl) ?_
      obtain ⟨g, h⟩ := h
      refine ziald X hW h0.2.1 g dX11_byteAt_13 ?_
      refine lv_goto (tgt := 19) hx hb dX11_byteAt_14 rfl ?_
      exact zreti X hr hlk hW h dX11_byteAt_19
  exact zMain s.heap [] ls hW hl
def wp_Model_fails (a1 : Int32) (M : zMem) (Q : zMem → Prop) : Prop :=
  (¬ (M 0 3) = 0 → Q M) ∧ ((M 0 3) = 0 → ∀ zm1 : zMem, zm1 = zup M 0 3 a1 → ∀ zm2 : zMem, zm2 = zup zm1 0 4 (zm1 0 6) → Q zm2)
set_option maxHeartbeats 4000000 in
set_option maxRecDepth 20000 in
theorem c_Model_fails {l : Launch} {w : zWd} {a1 : Int32} {M : zMem} {post : zMem → Prop} (h0 : zI_Model w) (h : wp_Model_fails a1 M post) : zMv l ⟨"HandToHandModel", "fails", "(I)V"⟩ prog_13_method_7_code 2 none 0 0 w [.ref (zad w 0), .int a1] M post := by
  refine zMet (by decide) (Nat.le_of_ble_eq_true rfl) ?_
  intro p e s m below meth c X hr hlk hml hW ls hl
  have hx := X.1
  have hb := X.2.1
  have hl : lv_has ls 2 [(0, .ref (zad w 0)), (1, .int a1)] := hl
  unfold wp_Model_fails at h
  have zMain : ∀ (H : Heap) (locs : List Loc) (ls : Array Slot), zWo w s.heap M H locs → lv_has ls 2 [(0, .ref (zad w 0)), (1, .int a1)] → W p l e (zRm 0 0) s m ([.ref (zad w 0), .int a1] : List Value).toArray below meth c H locs 0 0 (MQ below (va_Qv post (zB w) (zA w)) ([.ref (zad w 0), .int a1] : List Value).toArray s 0 0 (zA w)) (F0 m 0 ls []) := by
    intro H locs ls hW hl
    refine lv_aload_n hx hb dX11_fails_0 rfl (lv_at hl 0 rfl) ?_
    refine zg_Model_wrong X hW h0 zu_1023 dX11_fails_1 ?_
    refine lv_if_ne (tgt := 20) hx hb dX11_fails_4 rfl (fun c => ?_) (fun c => ?_)
    · replace h := h.1 c
      exact zretv X hr hlk hW h dX11_fails_20
    · replace h := h.2 c
      refine lv_aload_n hx hb dX11_fails_7 rfl (lv_at hl 0 rfl) ?_
      refine lv_iload_n hx hb dX11_fails_8 rfl (lv_at hl 1 rfl) ?_
      refine zp_Model_wrong X hW h0 zu_1023 dX11_fails_9 (fun H locs zm1 ezm1 hW => ?_)
      replace h := h zm1 ezm1
      refine lv_aload_n hx hb dX11_fails_12 rfl (lv_at hl 0 rfl) ?_
      refine lv_aload_n hx hb dX11_fails_13 rfl (lv_at hl 0 rfl) ?_
      refine zg_Model_place X hW h0 zu_1026 dX11_fails_14 ?_
      refine zp_Model_wrongAt X hW h0 zu_1024 dX11_fails_17 (fun H locs zm2 ezm2 hW => ?_)
      replace h := h zm2 ezm2
      exact zretv X hr hlk hW h dX11_fails_20
  exact zMain s.heap [] ls hW hl
def wpB_Model_nameAt_39 (a1 : Int32) (a2 : Int32) (x_3 : Int32) (K90 : Int32 → zMem → Prop) (Q : Int32 → zMem → Prop) (J : Int32 → Int32 → zMem → Prop) (x_4 : Int32) (x_5 : Int32) (M : zMem) : Prop :=
  (x_4 = 0 → K90 x_4 M) ∧ (¬ x_4 = 0 → ((a2 - a1) ≤ x_5 → K90 x_4 M) ∧ (¬ (a2 - a1) ≤ x_5 → wp_Model_byteAt (a1 + x_5) M (fun zr2 zm1 => vp_in x_3 11 ∧ vp_in ((zm1 2 (ix x_3)) + x_5) 43 ∧ (¬ zr2 = (zm1 3 (ix ((zm1 2 (ix x_3)) + x_5))) → ∀ zx3 : Int32, zx3 = x_5 + 1 → J 0 zx3 zm1) ∧ (zr2 = (zm1 3 (ix ((zm1 2 (ix x_3)) + x_5))) → ∀ zx4 : Int32, zx4 = x_5 + 1 → J 1 zx4 zm1))))
def wpB_Model_nameAt_2 (a1 : Int32) (a2 : Int32)   (Q : Int32 → zMem → Prop) (J : Int32 → zMem → Prop) (x_3 : Int32) (M : zMem) : Prop :=
  (10 ≤ x_3 → Q ((-4)) M) ∧ (¬ 10 ≤ x_3 → vp_in (x_3 + 1) 11 ∧ vp_in x_3 11 ∧ (¬ (a2 - a1) = ((M 2 (ix (x_3 + 1))) - (M 2 (ix x_3))) → ∃ n : Nat, zlp2 (wpB_Model_nameAt_39 a1 a2 x_3 (fun (zx6 : Int32) (zm5 : zMem) => (zx6 = 0 → ∀ zx7 : Int32, zx7 = x_3 + 1 → J zx7 zm5) ∧ (¬ zx6 = 0 → Q x_3 zm5)) Q) n 0 0 M) ∧ ((a2 - a1) = ((M 2 (ix (x_3 + 1))) - (M 2 (ix x_3))) → ∃ n : Nat, zlp2 (wpB_Model_nameAt_39 a1 a2 x_3 (fun (zx9 : Int32) (zm8 : zMem) => (zx9 = 0 → ∀ zx10 : Int32, zx10 = x_3 + 1 → J zx10 zm8) ∧ (¬ zx9 = 0 → Q x_3 zm8)) Q) n 1 0 M))
def wp_Model_nameAt (a1 : Int32) (a2 : Int32) (M : zMem) (Q : Int32 → zMem → Prop) : Prop :=
  ∃ n : Nat, zlp1 (wpB_Model_nameAt_2 a1 a2   Q) n 0 M
set_option maxHeartbeats 4000000 in
set_option maxRecDepth 20000 in
theorem c_Model_nameAt {l : Launch} {w : zWd} {a1 : Int32} {a2 : Int32} {M : zMem} {post : Int32 → zMem → Prop} (h0 : zI_Model w) (h : wp_Model_nameAt a1 a2 M post) : zMi l ⟨"HandToHandModel", "nameAt", "(II)I"⟩ prog_13_method_8_code 6 (Option.some .int) 1 21 w [.ref (zad w 0), .int a1, .int a2] M post := by
  refine zMet (by decide) (Nat.le_of_ble_eq_true rfl) ?_
  intro p e s m below meth c X hr hlk hml hW ls hl
  have hx := X.1
  have hb := X.2.1
  have hl : lv_has ls 6 [(0, .ref (zad w 0)), (1, .int a1), (2, .int a2)] := hl
  have zL_39 : ∀ (x_3 : Int32) (K90 : Int32 → zMem → Prop) (zK90 : ∀ (y_4 : Int32) (M : zMem) (H : Heap) (locs : List Loc) (ls : Array Slot), zWo w s.heap M H locs → lv_has ls 6 [(0, .ref (zad w 0)), (1, .int a1), (2, .int a2), (3, .int x_3), (4, .int y_4)] → K90 y_4 M → W p l e (zRm 1 21) s m ([.ref (zad w 0), .int a1, .int a2] : List Value).toArray below meth c H locs 0 0 (MQ below (va_Qi post (zB w) (zA w)) ([.ref (zad w 0), .int a1, .int a2] : List Value).toArray s 0 0 (zA w)) (F0 m 90 ls [])), ∀ (n : Nat) (x_4 : Int32) (x_5 : Int32) (M : zMem) (H : Heap) (locs : List Loc) (ls : Array Slot), zWo w s.heap M H locs → lv_has ls 6 [(0, .ref (zad w 0)), (1, .int a1), (2, .int a2), (3, .int x_3), (4, .int x_4), (5, .int x_5)] → zlp2 (wpB_Model_nameAt_39 a1 a2 x_3 K90 post) n x_4 x_5 M → W p l e (zRm 1 21) s m ([.ref (zad w 0), .int a1, .int a2] : List Value).toArray below meth c H locs 0 0 (MQ below (va_Qi post (zB w) (zA w)) ([.ref (zad w 0), .int a1, .int a2] : List Value).toArray s 0 0 (zA w)) (F0 m 39 ls []) := by
    intro x_3 K90 zK90 n
    induction n with
    | zero => intro x_4 x_5 M H locs ls hW hl h; exact h.elim
    | succ n zJ =>
      intro x_4 x_5 M H locs ls hW hl h
      have h : wpB_Model_nameAt_39 a1 a2 x_3 K90 post (zlp2 (wpB_Model_nameAt_39 a1 a2 x_3 K90 post) n) x_4 x_5 M := h
      unfold wpB_Model_nameAt_39 at h
      refine lv_iload hx hb dX11_nameAt_39 (lv_at hl 4 rfl) ?_
      refine lv_if_eq (tgt := 90) hx hb dX11_nameAt_41 rfl (fun c => ?_) (fun c => ?_)
      · replace h := h.1 c
        exact zK90 x_4 M H locs ls hW (lv_sub hl [0, 1, 2, 3, 4] rfl) h
      · replace h := h.2 c
        refine lv_iload hx hb dX11_nameAt_44 (lv_at hl 5 rfl) ?_
        refine lv_iload_n hx hb dX11_nameAt_46 rfl (lv_at hl 2 rfl) ?_
        refine lv_iload_n hx hb dX11_nameAt_47 rfl (lv_at hl 1 rfl) ?_
        refine lv_isub hx hb dX11_nameAt_48 ?_
        refine lv_icmp_ge (tgt := 90) hx hb dX11_nameAt_49 rfl (fun c => ?_) (fun c => ?_)
        · replace h := h.1 c
          exact zK90 x_4 M H locs ls hW (lv_sub hl [0, 1, 2, 3, 4] rfl) h
        · replace h := h.2 c
          refine lv_aload_n hx hb dX11_nameAt_52 rfl (lv_at hl 0 rfl) ?_
          refine lv_iload_n hx hb dX11_nameAt_53 rfl (lv_at hl 1 rfl) ?_
          refine lv_iload hx hb dX11_nameAt_54 (lv_at hl 5 rfl) ?_
          refine lv_iadd hx hb dX11_nameAt_56 ?_
          refine zcalli (zrunV (As := [.int (a1 + x_5)]) (rest := []) X hml hl hW h0.1 rfl zk_Model_82 (c_Model_byteAt h0 h) rfl ⟨Nat.le_of_ble_eq_true rfl, Nat.le_of_ble_eq_true rfl⟩ ⟨Nat.le_refl 0, Nat.le_refl 0⟩ rfl (Nat.le_of_ble_eq_true rfl) dX11_nameAt_57) hW (fun zr2 zm1 H locs h hW => ?_)
          refine lv_aload_n hx hb dX11_nameAt_60 rfl (lv_at hl 0 rfl) ?_
          refine zg_Model_letters X hW h0 zu_1030 dX11_nameAt_61 ?_
          refine lv_aload_n hx hb dX11_nameAt_64 rfl (lv_at hl 0 rfl) ?_
          refine zg_Model_cuts X hW h0 zu_1029 dX11_nameAt_65 ?_
          refine lv_iload_n hx hb dX11_nameAt_68 rfl (lv_at hl 3 rfl) ?_
          obtain ⟨g, h⟩ := h
          refine ziald X hW h0.2.2.1 g dX11_nameAt_69 ?_
          refine lv_iload hx hb dX11_nameAt_70 (lv_at hl 5 rfl) ?_
          refine lv_iadd hx hb dX11_nameAt_72 ?_
          obtain ⟨g, h⟩ := h
          refine ziald X hW h0.2.2.2.1 g dX11_nameAt_73 ?_
          refine lv_icmp_ne (tgt := 81) hx hb dX11_nameAt_74 rfl (fun c => ?_) (fun c => ?_)
          · replace h := h.1 c
            refine lv_iconst hx hb dX11_nameAt_81 zc_i0 ?_
            refine lv_istore (lv' := [(4, .int 0), (0, .ref (zad w 0)), (1, .int a1), (2, .int a2), (3, .int x_3), (5, .int x_5)]) hx hb dX11_nameAt_82 hl (Nat.le_of_ble_eq_true rfl) rfl (fun ls hl => ?_)
            obtain ⟨zx3, ezx3⟩ : ∃ y : Int32, y = x_5 + 1 := ⟨_, rfl⟩
            replace h := h zx3 ezx3
            refine lv_iinc (v := zx3) (lv' := [(5, .int zx3), (4, .int 0), (0, .ref (zad w 0)), (1, .int a1), (2, .int a2), (3, .int x_3)]) hx hb dX11_nameAt_84 hl (k := 5) rfl (by rw [ezx3, zc_i1]) (Nat.le_of_ble_eq_true rfl) rfl (fun ls hl => ?_)
            refine lv_goto (tgt := 39) hx hb dX11_nameAt_87 rfl ?_
            exact zJ 0 zx3 zm1 H locs ls hW (lv_sub hl [2, 3, 4, 5, 1, 0] rfl) h
          · replace h := h.2 c
            refine lv_iconst hx hb dX11_nameAt_77 zc_i1 ?_
            refine lv_goto (tgt := 82) hx hb dX11_nameAt_78 rfl ?_
            refine lv_istore (lv' := [(4, .int 1), (0, .ref (zad w 0)), (1, .int a1), (2, .int a2), (3, .int x_3), (5, .int x_5)]) hx hb dX11_nameAt_82 hl (Nat.le_of_ble_eq_true rfl) rfl (fun ls hl => ?_)
            obtain ⟨zx4, ezx4⟩ : ∃ y : Int32, y = x_5 + 1 := ⟨_, rfl⟩
            replace h := h zx4 ezx4
            refine lv_iinc (v := zx4) (lv' := [(5, .int zx4), (4, .int 1), (0, .ref (zad w 0)), (1, .int a1), (2, .int a2), (3, .int x_3)]) hx hb dX11_nameAt_84 hl (k := 5) rfl (by rw [ezx4, zc_i1]) (Nat.le_of_ble_eq_true rfl) rfl (fun ls hl => ?_)
            refine lv_goto (tgt := 39) hx hb dX11_nameAt_87 rfl ?_
            exact zJ 1 zx4 zm1 H locs ls hW (lv_sub hl [2, 3, 4, 5, 1, 0] rfl) h
  have zL_2 :  ∀ (n : Nat) (x_3 : Int32) (M : zMem) (H : Heap) (locs : List Loc) (ls : Array Slot), zWo w s.heap M H locs → lv_has ls 6 [(0, .ref (zad w 0)), (1, .int a1), (2, .int a2), (3, .int x_3)] → zlp1 (wpB_Model_nameAt_2 a1 a2   post) n x_3 M → W p l e (zRm 1 21) s m ([.ref (zad w 0), .int a1, .int a2] : List Value).toArray below meth c H locs 0 0 (MQ below (va_Qi post (zB w) (zA w)) ([.ref (zad w 0), .int a1, .int a2] : List Value).toArray s 0 0 (zA w)) (F0 m 2 ls []) := by
    intro n
    induction n with
    | zero => intro x_3 M H locs ls hW hl h; exact h.elim
    | succ n zJ =>
      intro x_3 M H locs ls hW hl h
      have h : wpB_Model_nameAt_2 a1 a2   post (zlp1 (wpB_Model_nameAt_2 a1 a2   post) n) x_3 M := h
      unfold wpB_Model_nameAt_2 at h
      refine lv_iload_n hx hb dX11_nameAt_2 rfl (lv_at hl 3 rfl) ?_
      refine lv_bipush hx hb dX11_nameAt_3 zc_b10 ?_
      refine lv_icmp_ge (tgt := 103) hx hb dX11_nameAt_5 rfl (fun c => ?_) (fun c => ?_)
      · replace h := h.1 c
        refine lv_bipush hx hb dX11_nameAt_103 zc_bm4 ?_
        exact zreti X hr hlk hW h dX11_nameAt_105
      · replace h := h.2 c
        refine lv_iload_n hx hb dX11_nameAt_8 rfl (lv_at hl 2 rfl) ?_
        refine lv_iload_n hx hb dX11_nameAt_9 rfl (lv_at hl 1 rfl) ?_
        refine lv_isub hx hb dX11_nameAt_10 ?_
        refine lv_aload_n hx hb dX11_nameAt_11 rfl (lv_at hl 0 rfl) ?_
        refine zg_Model_cuts X hW h0 zu_1029 dX11_nameAt_12 ?_
        refine lv_iload_n hx hb dX11_nameAt_15 rfl (lv_at hl 3 rfl) ?_
        refine lv_iconst hx hb dX11_nameAt_16 zc_i1 ?_
        refine lv_iadd hx hb dX11_nameAt_17 ?_
        obtain ⟨g, h⟩ := h
        refine ziald X hW h0.2.2.1 g dX11_nameAt_18 ?_
        refine lv_aload_n hx hb dX11_nameAt_19 rfl (lv_at hl 0 rfl) ?_
        refine zg_Model_cuts X hW h0 zu_1029 dX11_nameAt_20 ?_
        refine lv_iload_n hx hb dX11_nameAt_23 rfl (lv_at hl 3 rfl) ?_
        obtain ⟨g, h⟩ := h
        refine ziald X hW h0.2.2.1 g dX11_nameAt_24 ?_
        refine lv_isub hx hb dX11_nameAt_25 ?_
        refine lv_icmp_ne (tgt := 33) hx hb dX11_nameAt_26 rfl (fun c => ?_) (fun c => ?_)
        · replace h := h.1 c
          refine lv_iconst hx hb dX11_nameAt_33 zc_i0 ?_
          refine lv_istore (lv' := [(4, .int 0), (0, .ref (zad w 0)), (1, .int a1), (2, .int a2), (3, .int x_3)]) hx hb dX11_nameAt_34 hl (Nat.le_of_ble_eq_true rfl) rfl (fun ls hl => ?_)
          refine lv_iconst hx hb dX11_nameAt_36 zc_i0 ?_
          refine lv_istore (lv' := [(5, .int 0), (4, .int 0), (0, .ref (zad w 0)), (1, .int a1), (2, .int a2), (3, .int x_3)]) hx hb dX11_nameAt_37 hl (Nat.le_of_ble_eq_true rfl) rfl (fun ls hl => ?_)
          obtain ⟨n, h⟩ := h
          refine zL_39 x_3 _ (fun zx6 zm5 H locs ls hW hl h => ?_) n 0 0 M H locs ls hW (lv_sub hl [2, 3, 4, 5, 1, 0] rfl) h
          · skip
            refine lv_iload hx hb dX11_nameAt_90 (lv_at hl 4 rfl) ?_
            refine lv_if_eq (tgt := 97) hx hb dX11_nameAt_92 rfl (fun c => ?_) (fun c => ?_)
            · replace h := h.1 c
              obtain ⟨zx7, ezx7⟩ : ∃ y : Int32, y = x_3 + 1 := ⟨_, rfl⟩
              replace h := h zx7 ezx7
              refine lv_iinc (v := zx7) (lv' := [(3, .int zx7), (0, .ref (zad w 0)), (1, .int a1), (2, .int a2), (4, .int zx6)]) hx hb dX11_nameAt_97 hl (k := 3) rfl (by rw [ezx7, zc_i1]) (Nat.le_of_ble_eq_true rfl) rfl (fun ls hl => ?_)
              refine lv_goto (tgt := 2) hx hb dX11_nameAt_100 rfl ?_
              exact zJ zx7 zm5 H locs ls hW (lv_sub hl [1, 2, 3, 0] rfl) h
            · replace h := h.2 c
              refine lv_iload_n hx hb dX11_nameAt_95 rfl (lv_at hl 3 rfl) ?_
              exact zreti X hr hlk hW h dX11_nameAt_96
        · replace h := h.2 c
          refine lv_iconst hx hb dX11_nameAt_29 zc_i1 ?_
          refine lv_goto (tgt := 34) hx hb dX11_nameAt_30 rfl ?_
          refine lv_istore (lv' := [(4, .int 1), (0, .ref (zad w 0)), (1, .int a1), (2, .int a2), (3, .int x_3)]) hx hb dX11_nameAt_34 hl (Nat.le_of_ble_eq_true rfl) rfl (fun ls hl => ?_)
          refine lv_iconst hx hb dX11_nameAt_36 zc_i0 ?_
          refine lv_istore (lv' := [(5, .int 0), (4, .int 1), (0, .ref (zad w 0)), (1, .int a1), (2, .int a2), (3, .int x_3)]) hx hb dX11_nameAt_37 hl (Nat.le_of_ble_eq_true rfl) rfl (fun ls hl => ?_)
          obtain ⟨n, h⟩ := h
          refine zL_39 x_3 _ (fun zx9 zm8 H locs ls hW hl h => ?_) n 1 0 M H locs ls hW (lv_sub hl [2, 3, 4, 5, 1, 0] rfl) h
          · skip
            refine lv_iload hx hb dX11_nameAt_90 (lv_at hl 4 rfl) ?_
            refine lv_if_eq (tgt := 97) hx hb dX11_nameAt_92 rfl (fun c => ?_) (fun c => ?_)
            · replace h := h.1 c
              obtain ⟨zx10, ezx10⟩ : ∃ y : Int32, y = x_3 + 1 := ⟨_, rfl⟩
              replace h := h zx10 ezx10
              refine lv_iinc (v := zx10) (lv' := [(3, .int zx10), (0, .ref (zad w 0)), (1, .int a1), (2, .int a2), (4, .int zx9)]) hx hb dX11_nameAt_97 hl (k := 3) rfl (by rw [ezx10, zc_i1]) (Nat.le_of_ble_eq_true rfl) rfl (fun ls hl => ?_)
              refine lv_goto (tgt := 2) hx hb dX11_nameAt_100 rfl ?_
              exact zJ zx10 zm8 H locs ls hW (lv_sub hl [1, 2, 3, 0] rfl) h
            · replace h := h.2 c
              refine lv_iload_n hx hb dX11_nameAt_95 rfl (lv_at hl 3 rfl) ?_
              exact zreti X hr hlk hW h dX11_nameAt_96
  unfold wp_Model_nameAt at h
  have zMain : ∀ (H : Heap) (locs : List Loc) (ls : Array Slot), zWo w s.heap M H locs → lv_has ls 6 [(0, .ref (zad w 0)), (1, .int a1), (2, .int a2)] → W p l e (zRm 1 21) s m ([.ref (zad w 0), .int a1, .int a2] : List Value).toArray below meth c H locs 0 0 (MQ below (va_Qi post (zB w) (zA w)) ([.ref (zad w 0), .int a1, .int a2] : List Value).toArray s 0 0 (zA w)) (F0 m 0 ls []) := by
    intro H locs ls hW hl
    refine lv_iconst hx hb dX11_nameAt_0 zc_i0 ?_
    refine lv_istore_n (lv' := [(3, .int 0), (0, .ref (zad w 0)), (1, .int a1), (2, .int a2)]) hx hb dX11_nameAt_1 rfl hl (Nat.le_of_ble_eq_true rfl) rfl (fun ls hl => ?_)
    obtain ⟨n, h⟩ := h
    refine zL_2   n 0 M H locs ls hW (lv_sub hl [1, 2, 3, 0] rfl) h
  exact zMain s.heap [] ls hW hl
def wpB_Model_next_8   (K34 : zMem → Prop) (Q : zMem → Prop) (J : zMem → Prop)  (M : zMem) : Prop :=
  wp_Model_byteAt (M 0 5) M (fun zr2 zm1 => (¬ zr2 = 32 → K34 zm1) ∧ (zr2 = 32 → ∀ zm3 : zMem, zm3 = zup zm1 0 5 ((zm1 0 5) + 1) → J zm3))
def wpB_Model_next_170   (K247 : zMem → Prop) (Q : zMem → Prop) (J : zMem → Prop)  (M : zMem) : Prop :=
  wp_Model_byteAt (M 0 5) M (fun zr18 zm17 => wp_Model_in zr18.toInt64 48 57 zm17 (fun zr20 zm19 => (zr20 = 0 → K247 zm19) ∧ (¬ zr20 = 0 → (2 ≤ ((zm19 0 5) - (zm19 0 6)) → ∀ zm21 : zMem, zm21 = zup zm19 0 8 (zm19 0 8) → ∀ zm22 : zMem, zm22 = zup zm21 0 5 ((zm21 0 5) + 1) → J zm22) ∧ (¬ 2 ≤ ((zm19 0 5) - (zm19 0 6)) → wp_Model_byteAt (zm19 0 5) zm19 (fun zr24 zm23 => ∀ zm25 : zMem, zm25 = zup zm23 0 8 (((10 * (zm19 0 8)) + zr24) - 48) → ∀ zm26 : zMem, zm26 = zup zm25 0 5 ((zm25 0 5) + 1) → J zm26)))))
def wpB_Model_next_84   (K118 : zMem → Prop) (Q : zMem → Prop) (J : zMem → Prop)  (M : zMem) : Prop :=
  wp_Model_byteAt (M 0 5) M (fun zr32 zm31 => wp_Model_in zr32.toInt64 97 122 zm31 (fun zr34 zm33 => (zr34 = 0 → K118 zm33) ∧ (¬ zr34 = 0 → ∀ zm35 : zMem, zm35 = zup zm33 0 5 ((zm33 0 5) + 1) → J zm35)))
def wp_Model_next  (M : zMem) (Q : zMem → Prop) : Prop :=
  ((M 0 3) ≤ 0 → ∃ n : Nat, zlp0 (wpB_Model_next_8   (fun (zm4 : zMem) => ∀ zm5 : zMem, zm5 = zup zm4 0 6 (zm4 0 5) → wp_Model_byteAt (zm5 0 5) zm5 (fun zr7 zm6 => ∀ zm8 : zMem, zm8 = zup zm6 0 8 0 → (¬ zr7 = (-4) → wp_Model_in zr7.toInt64 97 122 zm8 (fun zr10 zm9 => (zr10 = 0 → wp_Model_in zr7.toInt64 48 57 zm9 (fun zr12 zm11 => (zr12 = 0 → ∀ zm13 : zMem, zm13 = zup zm11 0 7 3 → ∀ zm14 : zMem, zm14 = zup zm13 0 5 ((zm13 0 5) + 1) → (zr7 = 59 → Q zm14) ∧ (¬ zr7 = 59 → wp_Model_fails 1 zm14 (fun zm15 => Q zm15))) ∧ (¬ zr12 = 0 → ∃ n : Nat, zlp0 (wpB_Model_next_170   (fun (zm27 : zMem) => ∀ zm28 : zMem, zm28 = zup zm27 0 7 2 → (((zm28 0 5) - (zm28 0 6)) ≤ 2 → Q zm28) ∧ (¬ ((zm28 0 5) - (zm28 0 6)) ≤ 2 → wp_Model_fails 1 zm28 (fun zm29 => Q zm29))) Q) n  zm11))) ∧ (¬ zr10 = 0 → ∃ n : Nat, zlp0 (wpB_Model_next_84   (fun (zm36 : zMem) => ∀ zm37 : zMem, zm37 = zup zm36 0 7 1 → wp_Model_nameAt (zm37 0 6) (zm37 0 5) zm37 (fun zr39 zm38 => ∀ zm40 : zMem, zm40 = zup zm38 0 8 zr39 → (¬ (zm40 0 8) = (-4) → Q zm40) ∧ ((zm40 0 8) = (-4) → wp_Model_fails 1 zm40 (fun zm41 => Q zm41)))) Q) n  zm9))) ∧ (zr7 = (-4) → ∀ zm43 : zMem, zm43 = zup zm8 0 7 0 → Q zm43))) Q) n  M) ∧ (¬ (M 0 3) ≤ 0 → Q M)
set_option maxHeartbeats 4000000 in
set_option maxRecDepth 20000 in
theorem c_Model_next {l : Launch} {w : zWd} {M : zMem} {post : zMem → Prop} (h0 : zI_Model w) (h : wp_Model_next  M post) : zMv l ⟨"HandToHandModel", "next", "()V"⟩ prog_13_method_9_code 2 none 2 46 w [.ref (zad w 0)] M post := by
  refine zMet (by decide) (Nat.le_of_ble_eq_true rfl) ?_
  intro p e s m below meth c X hr hlk hml hW ls hl
  have hx := X.1
  have hb := X.2.1
  have hl : lv_has ls 2 [(0, .ref (zad w 0))] := hl
  have zL_8 : ∀ (K34 : zMem → Prop) (zK34 : ∀ (M : zMem) (H : Heap) (locs : List Loc) (ls : Array Slot), zWo w s.heap M H locs → lv_has ls 2 [(0, .ref (zad w 0))] → K34 M → W p l e (zRm 2 46) s m ([.ref (zad w 0)] : List Value).toArray below meth c H locs 0 0 (MQ below (va_Qv post (zB w) (zA w)) ([.ref (zad w 0)] : List Value).toArray s 0 0 (zA w)) (F0 m 34 ls [])), ∀ (n : Nat) (M : zMem) (H : Heap) (locs : List Loc) (ls : Array Slot), zWo w s.heap M H locs → lv_has ls 2 [(0, .ref (zad w 0))] → zlp0 (wpB_Model_next_8   K34 post) n M → W p l e (zRm 2 46) s m ([.ref (zad w 0)] : List Value).toArray below meth c H locs 0 0 (MQ below (va_Qv post (zB w) (zA w)) ([.ref (zad w 0)] : List Value).toArray s 0 0 (zA w)) (F0 m 8 ls []) := by
    intro K34 zK34 n
    induction n with
    | zero => intro M H locs ls hW hl h; exact h.elim
    | succ n zJ =>
      intro M H locs ls hW hl h
      have h : wpB_Model_next_8   K34 post (zlp0 (wpB_Model_next_8   K34 post) n) M := h
      unfold wpB_Model_next_8 at h
      refine lv_aload_n hx hb dX11_next_8 rfl (lv_at hl 0 rfl) ?_
      refine lv_aload_n hx hb dX11_next_9 rfl (lv_at hl 0 rfl) ?_
      refine zg_Model_spot X hW h0 zu_1025 dX11_next_10 ?_
      refine zcalli (zrunV (As := [.int (M 0 5)]) (rest := []) X hml hl hW h0.1 rfl zk_Model_82 (c_Model_byteAt h0 h) rfl ⟨Nat.le_of_ble_eq_true rfl, Nat.le_of_ble_eq_true rfl⟩ ⟨Nat.le_refl 0, Nat.le_refl 0⟩ rfl (Nat.le_of_ble_eq_true rfl) dX11_next_13) hW (fun zr2 zm1 H locs h hW => ?_)
      refine lv_bipush hx hb dX11_next_16 zc_b32 ?_
      refine lv_icmp_ne (tgt := 34) hx hb dX11_next_18 rfl (fun c => ?_) (fun c => ?_)
      · replace h := h.1 c
        exact zK34 zm1 H locs ls hW (lv_sub hl [0] rfl) h
      · replace h := h.2 c
        refine lv_aload_n hx hb dX11_next_21 rfl (lv_at hl 0 rfl) ?_
        refine lv_dup hx hb dX11_next_22 rfl ?_
        refine zg_Model_spot X hW h0 zu_1025 dX11_next_23 ?_
        refine lv_iconst hx hb dX11_next_26 zc_i1 ?_
        refine lv_iadd hx hb dX11_next_27 ?_
        refine zp_Model_spot X hW h0 zu_1025 dX11_next_28 (fun H locs zm3 ezm3 hW => ?_)
        replace h := h zm3 ezm3
        refine lv_goto (tgt := 8) hx hb dX11_next_31 rfl ?_
        exact zJ zm3 H locs ls hW (lv_sub hl [0] rfl) h
  have zL_170 : ∀ (K247 : zMem → Prop) (zK247 : ∀ (M : zMem) (H : Heap) (locs : List Loc) (ls : Array Slot), zWo w s.heap M H locs → lv_has ls 2 [(0, .ref (zad w 0))] → K247 M → W p l e (zRm 2 46) s m ([.ref (zad w 0)] : List Value).toArray below meth c H locs 0 0 (MQ below (va_Qv post (zB w) (zA w)) ([.ref (zad w 0)] : List Value).toArray s 0 0 (zA w)) (F0 m 247 ls [])), ∀ (n : Nat) (M : zMem) (H : Heap) (locs : List Loc) (ls : Array Slot), zWo w s.heap M H locs → lv_has ls 2 [(0, .ref (zad w 0))] → zlp0 (wpB_Model_next_170   K247 post) n M → W p l e (zRm 2 46) s m ([.ref (zad w 0)] : List Value).toArray below meth c H locs 0 0 (MQ below (va_Qv post (zB w) (zA w)) ([.ref (zad w 0)] : List Value).toArray s 0 0 (zA w)) (F0 m 170 ls []) := by
    intro K247 zK247 n
    induction n with
    | zero => intro M H locs ls hW hl h; exact h.elim
    | succ n zJ =>
      intro M H locs ls hW hl h
      have h : wpB_Model_next_170   K247 post (zlp0 (wpB_Model_next_170   K247 post) n) M := h
      unfold wpB_Model_next_170 at h
      refine lv_aload_n hx hb dX11_next_170 rfl (lv_at hl 0 rfl) ?_
      refine lv_aload_n hx hb dX11_next_171 rfl (lv_at hl 0 rfl) ?_
      refine zg_Model_spot X hW h0 zu_1025 dX11_next_172 ?_
      refine zcalli (zrunV (As := [.int (M 0 5)]) (rest := []) X hml hl hW h0.1 rfl zk_Model_82 (c_Model_byteAt h0 h) rfl ⟨Nat.le_of_ble_eq_true rfl, Nat.le_of_ble_eq_true rfl⟩ ⟨Nat.le_refl 0, Nat.le_refl 0⟩ rfl (Nat.le_of_ble_eq_true rfl) dX11_next_175) hW (fun zr18 zm17 H locs h hW => ?_)
      refine lv_i2l hx hb dX11_next_178 rfl ?_
      refine lv_ldc2 hx hb X.2.2.1 (X.2.2.2.1 _ zu_1174) dX11_next_179 ?_
      refine lv_ldc2 hx hb X.2.2.1 (X.2.2.2.1 _ zu_1175) dX11_next_182 ?_
      refine zcalli (zrunS (As := [.long zr18.toInt64, .long 48, .long 57]) (rest := []) X hml hl hW zk_Model_69 (c_Model_in  h) rfl ⟨Nat.le_of_ble_eq_true rfl, Nat.le_of_ble_eq_true rfl⟩ ⟨Nat.le_refl 0, Nat.le_refl 0⟩ rfl (Nat.le_of_ble_eq_true rfl) dX11_next_185) hW (fun zr20 zm19 H locs h hW => ?_)
      refine lv_if_eq (tgt := 247) hx hb dX11_next_188 rfl (fun c => ?_) (fun c => ?_)
      · replace h := h.1 c
        exact zK247 zm19 H locs ls hW (lv_sub hl [0] rfl) h
      · replace h := h.2 c
        refine lv_aload_n hx hb dX11_next_191 rfl (lv_at hl 0 rfl) ?_
        refine lv_aload_n hx hb dX11_next_192 rfl (lv_at hl 0 rfl) ?_
        refine zg_Model_spot X hW h0 zu_1025 dX11_next_193 ?_
        refine lv_aload_n hx hb dX11_next_196 rfl (lv_at hl 0 rfl) ?_
        refine zg_Model_place X hW h0 zu_1026 dX11_next_197 ?_
        refine lv_isub hx hb dX11_next_200 ?_
        refine lv_iconst hx hb dX11_next_201 zc_i2 ?_
        refine lv_icmp_ge (tgt := 227) hx hb dX11_next_202 rfl (fun c => ?_) (fun c => ?_)
        · replace h := h.1 c
          refine lv_aload_n hx hb dX11_next_227 rfl (lv_at hl 0 rfl) ?_
          refine zg_Model_value X hW h0 zu_1028 dX11_next_228 ?_
          refine zp_Model_value X hW h0 zu_1028 dX11_next_231 (fun H locs zm21 ezm21 hW => ?_)
          replace h := h zm21 ezm21
          refine lv_aload_n hx hb dX11_next_234 rfl (lv_at hl 0 rfl) ?_
          refine lv_dup hx hb dX11_next_235 rfl ?_
          refine zg_Model_spot X hW h0 zu_1025 dX11_next_236 ?_
          refine lv_iconst hx hb dX11_next_239 zc_i1 ?_
          refine lv_iadd hx hb dX11_next_240 ?_
          refine zp_Model_spot X hW h0 zu_1025 dX11_next_241 (fun H locs zm22 ezm22 hW => ?_)
          replace h := h zm22 ezm22
          refine lv_goto (tgt := 170) hx hb dX11_next_244 rfl ?_
          exact zJ zm22 H locs ls hW (lv_sub hl [0] rfl) h
        · replace h := h.2 c
          refine lv_bipush hx hb dX11_next_205 zc_b10 ?_
          refine lv_aload_n hx hb dX11_next_207 rfl (lv_at hl 0 rfl) ?_
          refine zg_Model_value X hW h0 zu_1028 dX11_next_208 ?_
          refine lv_imul hx hb dX11_next_211 ?_
          refine lv_aload_n hx hb dX11_next_212 rfl (lv_at hl 0 rfl) ?_
          refine lv_aload_n hx hb dX11_next_213 rfl (lv_at hl 0 rfl) ?_
          refine zg_Model_spot X hW h0 zu_1025 dX11_next_214 ?_
          refine zcalli (zrunV (As := [.int (zm19 0 5)]) (rest := [.int (10 * (zm19 0 8)), .ref (zad w 0)]) X hml hl hW h0.1 rfl zk_Model_82 (c_Model_byteAt h0 h) rfl ⟨Nat.le_of_ble_eq_true rfl, Nat.le_of_ble_eq_true rfl⟩ ⟨Nat.le_refl 0, Nat.le_refl 0⟩ rfl (Nat.le_of_ble_eq_true rfl) dX11_next_217) hW (fun zr24 zm23 H locs h hW => ?_)
          refine lv_iadd hx hb dX11_next_220 ?_
          refine lv_bipush hx hb dX11_next_221 zc_b48 ?_
          refine lv_isub hx hb dX11_next_223 ?_
          refine lv_goto (tgt := 231) hx hb dX11_next_224 rfl ?_
          refine zp_Model_value X hW h0 zu_1028 dX11_next_231 (fun H locs zm25 ezm25 hW => ?_)
          replace h := h zm25 ezm25
          refine lv_aload_n hx hb dX11_next_234 rfl (lv_at hl 0 rfl) ?_
          refine lv_dup hx hb dX11_next_235 rfl ?_
          refine zg_Model_spot X hW h0 zu_1025 dX11_next_236 ?_
          refine lv_iconst hx hb dX11_next_239 zc_i1 ?_
          refine lv_iadd hx hb dX11_next_240 ?_
          refine zp_Model_spot X hW h0 zu_1025 dX11_next_241 (fun H locs zm26 ezm26 hW => ?_)
          replace h := h zm26 ezm26
          refine lv_goto (tgt := 170) hx hb dX11_next_244 rfl ?_
          exact zJ zm26 H locs ls hW (lv_sub hl [0] rfl) h
  have zL_84 : ∀ (K118 : zMem → Prop) (zK118 : ∀ (M : zMem) (H : Heap) (locs : List Loc) (ls : Array Slot), zWo w s.heap M H locs → lv_has ls 2 [(0, .ref (zad w 0))] → K118 M → W p l e (zRm 2 46) s m ([.ref (zad w 0)] : List Value).toArray below meth c H locs 0 0 (MQ below (va_Qv post (zB w) (zA w)) ([.ref (zad w 0)] : List Value).toArray s 0 0 (zA w)) (F0 m 118 ls [])), ∀ (n : Nat) (M : zMem) (H : Heap) (locs : List Loc) (ls : Array Slot), zWo w s.heap M H locs → lv_has ls 2 [(0, .ref (zad w 0))] → zlp0 (wpB_Model_next_84   K118 post) n M → W p l e (zRm 2 46) s m ([.ref (zad w 0)] : List Value).toArray below meth c H locs 0 0 (MQ below (va_Qv post (zB w) (zA w)) ([.ref (zad w 0)] : List Value).toArray s 0 0 (zA w)) (F0 m 84 ls []) := by
    intro K118 zK118 n
    induction n with
    | zero => intro M H locs ls hW hl h; exact h.elim
    | succ n zJ =>
      intro M H locs ls hW hl h
      have h : wpB_Model_next_84   K118 post (zlp0 (wpB_Model_next_84   K118 post) n) M := h
      unfold wpB_Model_next_84 at h
      refine lv_aload_n hx hb dX11_next_84 rfl (lv_at hl 0 rfl) ?_
      refine lv_aload_n hx hb dX11_next_85 rfl (lv_at hl 0 rfl) ?_
      refine zg_Model_spot X hW h0 zu_1025 dX11_next_86 ?_
      refine zcalli (zrunV (As := [.int (M 0 5)]) (rest := []) X hml hl hW h0.1 rfl zk_Model_82 (c_Model_byteAt h0 h) rfl ⟨Nat.le_of_ble_eq_true rfl, Nat.le_of_ble_eq_true rfl⟩ ⟨Nat.le_refl 0, Nat.le_refl 0⟩ rfl (Nat.le_of_ble_eq_true rfl) dX11_next_89) hW (fun zr32 zm31 H locs h hW => ?_)
      refine lv_i2l hx hb dX11_next_92 rfl ?_
      refine lv_ldc2 hx hb X.2.2.1 (X.2.2.2.1 _ zu_1164) dX11_next_93 ?_
      refine lv_ldc2 hx hb X.2.2.1 (X.2.2.2.1 _ zu_1165) dX11_next_96 ?_
      refine zcalli (zrunS (As := [.long zr32.toInt64, .long 97, .long 122]) (rest := []) X hml hl hW zk_Model_69 (c_Model_in  h) rfl ⟨Nat.le_of_ble_eq_true rfl, Nat.le_of_ble_eq_true rfl⟩ ⟨Nat.le_refl 0, Nat.le_refl 0⟩ rfl (Nat.le_of_ble_eq_true rfl) dX11_next_99) hW (fun zr34 zm33 H locs h hW => ?_)
      refine lv_if_eq (tgt := 118) hx hb dX11_next_102 rfl (fun c => ?_) (fun c => ?_)
      · replace h := h.1 c
        exact zK118 zm33 H locs ls hW (lv_sub hl [0] rfl) h
      · replace h := h.2 c
        refine lv_aload_n hx hb dX11_next_105 rfl (lv_at hl 0 rfl) ?_
        refine lv_dup hx hb dX11_next_106 rfl ?_
        refine zg_Model_spot X hW h0 zu_1025 dX11_next_107 ?_
        refine lv_iconst hx hb dX11_next_110 zc_i1 ?_
        refine lv_iadd hx hb dX11_next_111 ?_
        refine zp_Model_spot X hW h0 zu_1025 dX11_next_112 (fun H locs zm35 ezm35 hW => ?_)
        replace h := h zm35 ezm35
        refine lv_goto (tgt := 84) hx hb dX11_next_115 rfl ?_
        exact zJ zm35 H locs ls hW (lv_sub hl [0] rfl) h
  unfold wp_Model_next at h
  have zMain : ∀ (H : Heap) (locs : List Loc) (ls : Array Slot), zWo w s.heap M H locs → lv_has ls 2 [(0, .ref (zad w 0))] → W p l e (zRm 2 46) s m ([.ref (zad w 0)] : List Value).toArray below meth c H locs 0 0 (MQ below (va_Qv post (zB w) (zA w)) ([.ref (zad w 0)] : List Value).toArray s 0 0 (zA w)) (F0 m 0 ls []) := by
    intro H locs ls hW hl
    refine lv_aload_n hx hb dX11_next_0 rfl (lv_at hl 0 rfl) ?_
    refine zg_Model_wrong X hW h0 zu_1023 dX11_next_1 ?_
    refine lv_if_le (tgt := 8) hx hb dX11_next_4 rfl (fun c => ?_) (fun c => ?_)
    · replace h := h.1 c
      obtain ⟨n, h⟩ := h
      refine zL_8  _ (fun  zm4 H locs ls hW hl h => ?_) n  M H locs ls hW (lv_sub hl [0] rfl) h
      · skip
        refine lv_aload_n hx hb dX11_next_34 rfl (lv_at hl 0 rfl) ?_
        refine lv_aload_n hx hb dX11_next_35 rfl (lv_at hl 0 rfl) ?_
        refine zg_Model_spot X hW h0 zu_1025 dX11_next_36 ?_
        refine zp_Model_place X hW h0 zu_1026 dX11_next_39 (fun H locs zm5 ezm5 hW => ?_)
        replace h := h zm5 ezm5
        refine lv_aload_n hx hb dX11_next_42 rfl (lv_at hl 0 rfl) ?_
        refine lv_aload_n hx hb dX11_next_43 rfl (lv_at hl 0 rfl) ?_
        refine zg_Model_spot X hW h0 zu_1025 dX11_next_44 ?_
        refine zcalli (zrunV (As := [.int (zm5 0 5)]) (rest := []) X hml hl hW h0.1 rfl zk_Model_82 (c_Model_byteAt h0 h) rfl ⟨Nat.le_of_ble_eq_true rfl, Nat.le_of_ble_eq_true rfl⟩ ⟨Nat.le_refl 0, Nat.le_refl 0⟩ rfl (Nat.le_of_ble_eq_true rfl) dX11_next_47) hW (fun zr7 zm6 H locs h hW => ?_)
        refine lv_istore_n (lv' := [(1, .int zr7), (0, .ref (zad w 0))]) hx hb dX11_next_50 rfl hl (Nat.le_of_ble_eq_true rfl) rfl (fun ls hl => ?_)
        refine lv_aload_n hx hb dX11_next_51 rfl (lv_at hl 1 rfl) ?_
        refine lv_iconst hx hb dX11_next_52 zc_i0 ?_
        refine zp_Model_value X hW h0 zu_1028 dX11_next_53 (fun H locs zm8 ezm8 hW => ?_)
        replace h := h zm8 ezm8
        refine lv_iload_n hx hb dX11_next_56 rfl (lv_at hl 0 rfl) ?_
        refine lv_bipush hx hb dX11_next_57 zc_bm4 ?_
        refine lv_icmp_ne (tgt := 70) hx hb dX11_next_59 rfl (fun c => ?_) (fun c => ?_)
        · replace h := h.1 c
          refine lv_iload_n hx hb dX11_next_70 rfl (lv_at hl 0 rfl) ?_
          refine lv_i2l hx hb dX11_next_71 rfl ?_
          refine lv_ldc2 hx hb X.2.2.1 (X.2.2.2.1 _ zu_1164) dX11_next_72 ?_
          refine lv_ldc2 hx hb X.2.2.1 (X.2.2.2.1 _ zu_1165) dX11_next_75 ?_
          refine zcalli (zrunS (As := [.long zr7.toInt64, .long 97, .long 122]) (rest := []) X hml hl hW zk_Model_69 (c_Model_in  h) rfl ⟨Nat.le_of_ble_eq_true rfl, Nat.le_of_ble_eq_true rfl⟩ ⟨Nat.le_refl 0, Nat.le_refl 0⟩ rfl (Nat.le_of_ble_eq_true rfl) dX11_next_78) hW (fun zr10 zm9 H locs h hW => ?_)
          refine lv_if_eq (tgt := 156) hx hb dX11_next_81 rfl (fun c => ?_) (fun c => ?_)
          · replace h := h.1 c
            refine lv_iload_n hx hb dX11_next_156 rfl (lv_at hl 0 rfl) ?_
            refine lv_i2l hx hb dX11_next_157 rfl ?_
            refine lv_ldc2 hx hb X.2.2.1 (X.2.2.2.1 _ zu_1174) dX11_next_158 ?_
            refine lv_ldc2 hx hb X.2.2.1 (X.2.2.2.1 _ zu_1175) dX11_next_161 ?_
            refine zcalli (zrunS (As := [.long zr7.toInt64, .long 48, .long 57]) (rest := []) X hml hl hW zk_Model_69 (c_Model_in  h) rfl ⟨Nat.le_of_ble_eq_true rfl, Nat.le_of_ble_eq_true rfl⟩ ⟨Nat.le_refl 0, Nat.le_refl 0⟩ rfl (Nat.le_of_ble_eq_true rfl) dX11_next_164) hW (fun zr12 zm11 H locs h hW => ?_)
            refine lv_if_eq (tgt := 273) hx hb dX11_next_167 rfl (fun c => ?_) (fun c => ?_)
            · replace h := h.1 c
              refine lv_aload_n hx hb dX11_next_273 rfl (lv_at hl 1 rfl) ?_
              refine lv_iconst hx hb dX11_next_274 zc_i3 ?_
              refine zp_Model_token X hW h0 zu_1027 dX11_next_275 (fun H locs zm13 ezm13 hW => ?_)
              replace h := h zm13 ezm13
              refine lv_aload_n hx hb dX11_next_278 rfl (lv_at hl 1 rfl) ?_
              refine lv_dup hx hb dX11_next_279 rfl ?_
              refine zg_Model_spot X hW h0 zu_1025 dX11_next_280 ?_
              refine lv_iconst hx hb dX11_next_283 zc_i1 ?_
              refine lv_iadd hx hb dX11_next_284 ?_
              refine zp_Model_spot X hW h0 zu_1025 dX11_next_285 (fun H locs zm14 ezm14 hW => ?_)
              replace h := h zm14 ezm14
              refine lv_iload_n hx hb dX11_next_288 rfl (lv_at hl 0 rfl) ?_
              refine lv_bipush hx hb dX11_next_289 zc_b59 ?_
              refine lv_icmp_eq (tgt := 299) hx hb dX11_next_291 rfl (fun c => ?_) (fun c => ?_)
              · replace h := h.1 c
                exact zretv X hr hlk hW h dX11_next_299
              · replace h := h.2 c
                refine lv_aload_n hx hb dX11_next_294 rfl (lv_at hl 1 rfl) ?_
                refine lv_iconst hx hb dX11_next_295 zc_i1 ?_
                refine zcallv (zrunV (As := [.int 1]) (rest := []) X hml hl hW h0.1 rfl zk_Model_103 (c_Model_fails h0 h) rfl ⟨Nat.le_of_ble_eq_true rfl, Nat.le_of_ble_eq_true rfl⟩ ⟨Nat.le_refl 0, Nat.le_refl 0⟩ rfl (Nat.le_of_ble_eq_true rfl) dX11_next_296) hW (fun zm15 H locs h hW => ?_)
                exact zretv X hr hlk hW h dX11_next_299
            · replace h := h.2 c
              obtain ⟨n, h⟩ := h
              refine zL_170  _ (fun  zm27 H locs ls hW hl h => ?_) n  zm11 H locs ls hW (lv_sub hl [1] rfl) h
              · skip
                refine lv_aload_n hx hb dX11_next_247 rfl (lv_at hl 0 rfl) ?_
                refine lv_iconst hx hb dX11_next_248 zc_i2 ?_
                refine zp_Model_token X hW h0 zu_1027 dX11_next_249 (fun H locs zm28 ezm28 hW => ?_)
                replace h := h zm28 ezm28
                refine lv_aload_n hx hb dX11_next_252 rfl (lv_at hl 0 rfl) ?_
                refine zg_Model_spot X hW h0 zu_1025 dX11_next_253 ?_
                refine lv_aload_n hx hb dX11_next_256 rfl (lv_at hl 0 rfl) ?_
                refine zg_Model_place X hW h0 zu_1026 dX11_next_257 ?_
                refine lv_isub hx hb dX11_next_260 ?_
                refine lv_iconst hx hb dX11_next_261 zc_i2 ?_
                refine lv_icmp_le (tgt := 299) hx hb dX11_next_262 rfl (fun c => ?_) (fun c => ?_)
                · replace h := h.1 c
                  exact zretv X hr hlk hW h dX11_next_299
                · replace h := h.2 c
                  refine lv_aload_n hx hb dX11_next_265 rfl (lv_at hl 0 rfl) ?_
                  refine lv_iconst hx hb dX11_next_266 zc_i1 ?_
                  refine zcallv (zrunV (As := [.int 1]) (rest := []) X hml hl hW h0.1 rfl zk_Model_103 (c_Model_fails h0 h) rfl ⟨Nat.le_of_ble_eq_true rfl, Nat.le_of_ble_eq_true rfl⟩ ⟨Nat.le_refl 0, Nat.le_refl 0⟩ rfl (Nat.le_of_ble_eq_true rfl) dX11_next_267) hW (fun zm29 H locs h hW => ?_)
                  refine lv_goto (tgt := 299) hx hb dX11_next_270 rfl ?_
                  exact zretv X hr hlk hW h dX11_next_299
          · replace h := h.2 c
            obtain ⟨n, h⟩ := h
            refine zL_84  _ (fun  zm36 H locs ls hW hl h => ?_) n  zm9 H locs ls hW (lv_sub hl [1] rfl) h
            · skip
              refine lv_aload_n hx hb dX11_next_118 rfl (lv_at hl 0 rfl) ?_
              refine lv_iconst hx hb dX11_next_119 zc_i1 ?_
              refine zp_Model_token X hW h0 zu_1027 dX11_next_120 (fun H locs zm37 ezm37 hW => ?_)
              replace h := h zm37 ezm37
              refine lv_aload_n hx hb dX11_next_123 rfl (lv_at hl 0 rfl) ?_
              refine lv_aload_n hx hb dX11_next_124 rfl (lv_at hl 0 rfl) ?_
              refine lv_aload_n hx hb dX11_next_125 rfl (lv_at hl 0 rfl) ?_
              refine zg_Model_place X hW h0 zu_1026 dX11_next_126 ?_
              refine lv_aload_n hx hb dX11_next_129 rfl (lv_at hl 0 rfl) ?_
              refine zg_Model_spot X hW h0 zu_1025 dX11_next_130 ?_
              refine zcalli (zrunV (As := [.int (zm37 0 6), .int (zm37 0 5)]) (rest := [.ref (zad w 0)]) X hml hl hW h0.1 rfl zk_Model_99 (c_Model_nameAt h0 h) rfl ⟨Nat.le_of_ble_eq_true rfl, Nat.le_of_ble_eq_true rfl⟩ ⟨Nat.le_refl 0, Nat.le_refl 0⟩ rfl (Nat.le_of_ble_eq_true rfl) dX11_next_133) hW (fun zr39 zm38 H locs h hW => ?_)
              refine zp_Model_value X hW h0 zu_1028 dX11_next_136 (fun H locs zm40 ezm40 hW => ?_)
              replace h := h zm40 ezm40
              refine lv_aload_n hx hb dX11_next_139 rfl (lv_at hl 0 rfl) ?_
              refine zg_Model_value X hW h0 zu_1028 dX11_next_140 ?_
              refine lv_bipush hx hb dX11_next_143 zc_bm4 ?_
              refine lv_icmp_ne (tgt := 299) hx hb dX11_next_145 rfl (fun c => ?_) (fun c => ?_)
              · replace h := h.1 c
                exact zretv X hr hlk hW h dX11_next_299
              · replace h := h.2 c
                refine lv_aload_n hx hb dX11_next_148 rfl (lv_at hl 0 rfl) ?_
                refine lv_iconst hx hb dX11_next_149 zc_i1 ?_
                refine zcallv (zrunV (As := [.int 1]) (rest := []) X hml hl hW h0.1 rfl zk_Model_103 (c_Model_fails h0 h) rfl ⟨Nat.le_of_ble_eq_true rfl, Nat.le_of_ble_eq_true rfl⟩ ⟨Nat.le_refl 0, Nat.le_refl 0⟩ rfl (Nat.le_of_ble_eq_true rfl) dX11_next_150) hW (fun zm41 H locs h hW => ?_)
                refine lv_goto (tgt := 299) hx hb dX11_next_153 rfl ?_
                exact zretv X hr hlk hW h dX11_next_299
        · replace h := h.2 c
          refine lv_aload_n hx hb dX11_next_62 rfl (lv_at hl 1 rfl) ?_
          refine lv_iconst hx hb dX11_next_63 zc_i0 ?_
          refine zp_Model_token X hW h0 zu_1027 dX11_next_64 (fun H locs zm43 ezm43 hW => ?_)
          replace h := h zm43 ezm43
          refine lv_goto (tgt := 299) hx hb dX11_next_67 rfl ?_
          exact zretv X hr hlk hW h dX11_next_299
    · replace h := h.2 c
      exact zretv X hr hlk hW h dX11_next_7
  exact zMain s.heap [] ls hW hl
def wpJ_Model_number_20 (a1 : Int32) (a2 : Int32)  (Q : Int32 → zMem → Prop)   (M : zMem) : Prop :=
  (¬ (M 0 3) = 0 → (¬ (M 0 3) = 0 → Q a1 M) ∧ ((M 0 3) = 0 → Q (M 0 8) M)) ∧ ((M 0 3) = 0 → wp_Model_in ((M 0 8).toInt64) a1.toInt64 a2.toInt64 M (fun zr2 zm1 => (¬ zr2 = 0 → (¬ (zm1 0 3) = 0 → Q a1 zm1) ∧ ((zm1 0 3) = 0 → Q (zm1 0 8) zm1)) ∧ (zr2 = 0 → wp_Model_fails 3 zm1 (fun zm3 => (¬ (zm3 0 3) = 0 → Q a1 zm3) ∧ ((zm3 0 3) = 0 → Q (zm3 0 8) zm3)))))
def wp_Model_number (a1 : Int32) (a2 : Int32) (M : zMem) (Q : Int32 → zMem → Prop) : Prop :=
  (¬ (M 0 3) = 0 → wpJ_Model_number_20 a1 a2 Q M) ∧ ((M 0 3) = 0 → ((M 0 7) = 2 → wpJ_Model_number_20 a1 a2 Q M) ∧ (¬ (M 0 7) = 2 → wp_Model_fails 2 M (fun zm5 => wpJ_Model_number_20 a1 a2 Q zm5)))
set_option maxHeartbeats 4000000 in
set_option maxRecDepth 20000 in
theorem c_Model_number {l : Launch} {w : zWd} {a1 : Int32} {a2 : Int32} {M : zMem} {post : Int32 → zMem → Prop} (h0 : zI_Model w) (h : wp_Model_number a1 a2 M post) : zMi l ⟨"HandToHandModel", "number", "(II)I"⟩ prog_13_method_10_code 3 (Option.some .int) 1 25 w [.ref (zad w 0), .int a1, .int a2] M post := by
  refine zMet (by decide) (Nat.le_of_ble_eq_true rfl) ?_
  intro p e s m below meth c X hr hlk hml hW ls hl
  have hx := X.1
  have hb := X.2.1
  have hl : lv_has ls 3 [(0, .ref (zad w 0)), (1, .int a1), (2, .int a2)] := hl
  have zJ_20 : ∀ (M : zMem) (H : Heap) (locs : List Loc) (ls : Array Slot), zWo w s.heap M H locs → lv_has ls 3 [(0, .ref (zad w 0)), (1, .int a1), (2, .int a2)] → wpJ_Model_number_20 a1 a2 post M → W p l e (zRm 1 25) s m ([.ref (zad w 0), .int a1, .int a2] : List Value).toArray below meth c H locs 0 0 (MQ below (va_Qi post (zB w) (zA w)) ([.ref (zad w 0), .int a1, .int a2] : List Value).toArray s 0 0 (zA w)) (F0 m 20 ls []) := by
    intro  M H locs ls hW hl h
    unfold wpJ_Model_number_20 at h
    refine lv_aload_n hx hb dX11_number_20 rfl (lv_at hl 0 rfl) ?_
    refine zg_Model_wrong X hW h0 zu_1023 dX11_number_21 ?_
    refine lv_if_ne (tgt := 47) hx hb dX11_number_24 rfl (fun c => ?_) (fun c => ?_)
    · replace h := h.1 c
      refine lv_aload_n hx hb dX11_number_47 rfl (lv_at hl 0 rfl) ?_
      refine zg_Model_wrong X hW h0 zu_1023 dX11_number_48 ?_
      refine lv_if_ne (tgt := 61) hx hb dX11_number_51 rfl (fun c => ?_) (fun c => ?_)
      · replace h := h.1 c
        refine lv_iload_n hx hb dX11_number_61 rfl (lv_at hl 1 rfl) ?_
        exact zreti X hr hlk hW h dX11_number_62
      · replace h := h.2 c
        refine lv_aload_n hx hb dX11_number_54 rfl (lv_at hl 0 rfl) ?_
        refine zg_Model_value X hW h0 zu_1028 dX11_number_55 ?_
        refine lv_goto (tgt := 62) hx hb dX11_number_58 rfl ?_
        exact zreti X hr hlk hW h dX11_number_62
    · replace h := h.2 c
      refine lv_aload_n hx hb dX11_number_27 rfl (lv_at hl 0 rfl) ?_
      refine zg_Model_value X hW h0 zu_1028 dX11_number_28 ?_
      refine lv_i2l hx hb dX11_number_31 rfl ?_
      refine lv_iload_n hx hb dX11_number_32 rfl (lv_at hl 1 rfl) ?_
      refine lv_i2l hx hb dX11_number_33 rfl ?_
      refine lv_iload_n hx hb dX11_number_34 rfl (lv_at hl 2 rfl) ?_
      refine lv_i2l hx hb dX11_number_35 rfl ?_
      refine zcalli (zrunS (As := [.long ((M 0 8).toInt64), .long a1.toInt64, .long a2.toInt64]) (rest := []) X hml hl hW zk_Model_69 (c_Model_in  h) rfl ⟨Nat.le_of_ble_eq_true rfl, Nat.le_of_ble_eq_true rfl⟩ ⟨Nat.le_refl 0, Nat.le_refl 0⟩ rfl (Nat.le_of_ble_eq_true rfl) dX11_number_36) hW (fun zr2 zm1 H locs h hW => ?_)
      refine lv_if_ne (tgt := 47) hx hb dX11_number_39 rfl (fun c => ?_) (fun c => ?_)
      · replace h := h.1 c
        refine lv_aload_n hx hb dX11_number_47 rfl (lv_at hl 0 rfl) ?_
        refine zg_Model_wrong X hW h0 zu_1023 dX11_number_48 ?_
        refine lv_if_ne (tgt := 61) hx hb dX11_number_51 rfl (fun c => ?_) (fun c => ?_)
        · replace h := h.1 c
          refine lv_iload_n hx hb dX11_number_61 rfl (lv_at hl 1 rfl) ?_
          exact zreti X hr hlk hW h dX11_number_62
        · replace h := h.2 c
          refine lv_aload_n hx hb dX11_number_54 rfl (lv_at hl 0 rfl) ?_
          refine zg_Model_value X hW h0 zu_1028 dX11_number_55 ?_
          refine lv_goto (tgt := 62) hx hb dX11_number_58 rfl ?_
          exact zreti X hr hlk hW h dX11_number_62
      · replace h := h.2 c
        refine lv_aload_n hx hb dX11_number_42 rfl (lv_at hl 0 rfl) ?_
        refine lv_iconst hx hb dX11_number_43 zc_i3 ?_
        refine zcallv (zrunV (As := [.int 3]) (rest := []) X hml hl hW h0.1 rfl zk_Model_103 (c_Model_fails h0 h) rfl ⟨Nat.le_of_ble_eq_true rfl, Nat.le_of_ble_eq_true rfl⟩ ⟨Nat.le_refl 0, Nat.le_refl 0⟩ rfl (Nat.le_of_ble_eq_true rfl) dX11_number_44) hW (fun zm3 H locs h hW => ?_)
        refine lv_aload_n hx hb dX11_number_47 rfl (lv_at hl 0 rfl) ?_
        refine zg_Model_wrong X hW h0 zu_1023 dX11_number_48 ?_
        refine lv_if_ne (tgt := 61) hx hb dX11_number_51 rfl (fun c => ?_) (fun c => ?_)
        · replace h := h.1 c
          refine lv_iload_n hx hb dX11_number_61 rfl (lv_at hl 1 rfl) ?_
          exact zreti X hr hlk hW h dX11_number_62
        · replace h := h.2 c
          refine lv_aload_n hx hb dX11_number_54 rfl (lv_at hl 0 rfl) ?_
          refine zg_Model_value X hW h0 zu_1028 dX11_number_55 ?_
          refine lv_goto (tgt := 62) hx hb dX11_number_58 rfl ?_
          exact zreti X hr hlk hW h dX11_number_62
  unfold wp_Model_number at h
  have zMain : ∀ (H : Heap) (locs : List Loc) (ls : Array Slot), zWo w s.heap M H locs → lv_has ls 3 [(0, .ref (zad w 0)), (1, .int a1), (2, .int a2)] → W p l e (zRm 1 25) s m ([.ref (zad w 0), .int a1, .int a2] : List Value).toArray below meth c H locs 0 0 (MQ below (va_Qi post (zB w) (zA w)) ([.ref (zad w 0), .int a1, .int a2] : List Value).toArray s 0 0 (zA w)) (F0 m 0 ls []) := by
    intro H locs ls hW hl
    refine lv_aload_n hx hb dX11_number_0 rfl (lv_at hl 0 rfl) ?_
    refine zg_Model_wrong X hW h0 zu_1023 dX11_number_1 ?_
    refine lv_if_ne (tgt := 20) hx hb dX11_number_4 rfl (fun c => ?_) (fun c => ?_)
    · replace h := h.1 c
      exact zJ_20  M H locs ls hW (lv_sub hl [0, 1, 2] rfl) h
    · replace h := h.2 c
      refine lv_aload_n hx hb dX11_number_7 rfl (lv_at hl 0 rfl) ?_
      refine zg_Model_token X hW h0 zu_1027 dX11_number_8 ?_
      refine lv_iconst hx hb dX11_number_11 zc_i2 ?_
      refine lv_icmp_eq (tgt := 20) hx hb dX11_number_12 rfl (fun c => ?_) (fun c => ?_)
      · replace h := h.1 c
        exact zJ_20  M H locs ls hW (lv_sub hl [0, 1, 2] rfl) h
      · replace h := h.2 c
        refine lv_aload_n hx hb dX11_number_15 rfl (lv_at hl 0 rfl) ?_
        refine lv_iconst hx hb dX11_number_16 zc_i2 ?_
        refine zcallv (zrunV (As := [.int 2]) (rest := []) X hml hl hW h0.1 rfl zk_Model_103 (c_Model_fails h0 h) rfl ⟨Nat.le_of_ble_eq_true rfl, Nat.le_of_ble_eq_true rfl⟩ ⟨Nat.le_refl 0, Nat.le_refl 0⟩ rfl (Nat.le_of_ble_eq_true rfl) dX11_number_17) hW (fun zm5 H locs h hW => ?_)
        exact zJ_20  zm5 H locs ls hW (lv_sub hl [0, 1, 2] rfl) h
  exact zMain s.heap [] ls hW hl
def wpB_Model_numbers_3 (a1 : Int32) (a2 : Int32) (a3 : Int32) (a4 : Int32)   (Q : zMem → Prop) (J : Int32 → zMem → Prop) (x_5 : Int32) (M : zMem) : Prop :=
  (a2 ≤ x_5 → Q M) ∧ (¬ a2 ≤ x_5 → wp_Model_number a3 a4 M (fun zr2 zm1 => vp_in (a1 + x_5) 100 ∧ ∀ zm3 : zMem, zm3 = zup zm1 5 (ix (a1 + x_5)) zr2 → wp_Model_next zm3 (fun zm4 => ∀ zx6 : Int32, zx6 = x_5 + 1 → J zx6 zm4)))
def wp_Model_numbers (a1 : Int32) (a2 : Int32) (a3 : Int32) (a4 : Int32) (M : zMem) (Q : zMem → Prop) : Prop :=
  ∃ n : Nat, zlp1 (wpB_Model_numbers_3 a1 a2 a3 a4   Q) n 0 M
set_option maxHeartbeats 4000000 in
set_option maxRecDepth 20000 in
theorem c_Model_numbers {l : Launch} {w : zWd} {a1 : Int32} {a2 : Int32} {a3 : Int32} {a4 : Int32} {M : zMem} {post : zMem → Prop} (h0 : zI_Model w) (h : wp_Model_numbers a1 a2 a3 a4 M post) : zMv l ⟨"HandToHandModel", "numbers", "(IIII)V"⟩ prog_13_method_11_code 6 none 3 67 w [.ref (zad w 0), .int a1, .int a2, .int a3, .int a4] M post := by
  refine zMet (by decide) (Nat.le_of_ble_eq_true rfl) ?_
  intro p e s m below meth c X hr hlk hml hW ls hl
  have hx := X.1
  have hb := X.2.1
  have hl : lv_has ls 6 [(0, .ref (zad w 0)), (1, .int a1), (2, .int a2), (3, .int a3), (4, .int a4)] := hl
  have zL_3 :  ∀ (n : Nat) (x_5 : Int32) (M : zMem) (H : Heap) (locs : List Loc) (ls : Array Slot), zWo w s.heap M H locs → lv_has ls 6 [(0, .ref (zad w 0)), (1, .int a1), (2, .int a2), (3, .int a3), (4, .int a4), (5, .int x_5)] → zlp1 (wpB_Model_numbers_3 a1 a2 a3 a4   post) n x_5 M → W p l e (zRm 3 67) s m ([.ref (zad w 0), .int a1, .int a2, .int a3, .int a4] : List Value).toArray below meth c H locs 0 0 (MQ below (va_Qv post (zB w) (zA w)) ([.ref (zad w 0), .int a1, .int a2, .int a3, .int a4] : List Value).toArray s 0 0 (zA w)) (F0 m 3 ls []) := by
    intro n
    induction n with
    | zero => intro x_5 M H locs ls hW hl h; exact h.elim
    | succ n zJ =>
      intro x_5 M H locs ls hW hl h
      have h : wpB_Model_numbers_3 a1 a2 a3 a4   post (zlp1 (wpB_Model_numbers_3 a1 a2 a3 a4   post) n) x_5 M := h
      unfold wpB_Model_numbers_3 at h
      refine lv_iload hx hb dX11_numbers_3 (lv_at hl 5 rfl) ?_
      refine lv_iload_n hx hb dX11_numbers_5 rfl (lv_at hl 2 rfl) ?_
      refine lv_icmp_ge (tgt := 35) hx hb dX11_numbers_6 rfl (fun c => ?_) (fun c => ?_)
      · replace h := h.1 c
        exact zretv X hr hlk hW h dX11_numbers_35
      · replace h := h.2 c
        refine lv_aload_n hx hb dX11_numbers_9 rfl (lv_at hl 0 rfl) ?_
        refine zg_Model_reads X hW h0 zu_1032 dX11_numbers_10 ?_
        refine lv_iload_n hx hb dX11_numbers_13 rfl (lv_at hl 1 rfl) ?_
        refine lv_iload hx hb dX11_numbers_14 (lv_at hl 5 rfl) ?_
        refine lv_iadd hx hb dX11_numbers_16 ?_
        refine lv_aload_n hx hb dX11_numbers_17 rfl (lv_at hl 0 rfl) ?_
        refine lv_iload_n hx hb dX11_numbers_18 rfl (lv_at hl 3 rfl) ?_
        refine lv_iload hx hb dX11_numbers_19 (lv_at hl 4 rfl) ?_
        refine zcalli (zrunV (As := [.int a3, .int a4]) (rest := [.int (a1 + x_5), .ref (zad w 5)]) X hml hl hW h0.1 rfl zk_Model_111 (c_Model_number h0 h) rfl ⟨Nat.le_of_ble_eq_true rfl, Nat.le_of_ble_eq_true rfl⟩ ⟨Nat.le_refl 0, Nat.le_refl 0⟩ rfl (Nat.le_of_ble_eq_true rfl) dX11_numbers_21) hW (fun zr2 zm1 H locs h hW => ?_)
        obtain ⟨g, h⟩ := h
        refine ziast X hW h0.2.2.2.2.2.1 g dX11_numbers_24 (fun H locs zm3 ezm3 hW => ?_)
        replace h := h zm3 ezm3
        refine lv_aload_n hx hb dX11_numbers_25 rfl (lv_at hl 0 rfl) ?_
        refine zcallv (zrunV (As := []) (rest := []) X hml hl hW h0.1 rfl zk_Model_114 (c_Model_next h0 h) rfl ⟨Nat.le_of_ble_eq_true rfl, Nat.le_of_ble_eq_true rfl⟩ ⟨Nat.le_refl 0, Nat.le_refl 0⟩ rfl (Nat.le_of_ble_eq_true rfl) dX11_numbers_26) hW (fun zm4 H locs h hW => ?_)
        obtain ⟨zx6, ezx6⟩ : ∃ y : Int32, y = x_5 + 1 := ⟨_, rfl⟩
        replace h := h zx6 ezx6
        refine lv_iinc (v := zx6) (lv' := [(5, .int zx6), (0, .ref (zad w 0)), (1, .int a1), (2, .int a2), (3, .int a3), (4, .int a4)]) hx hb dX11_numbers_29 hl (k := 5) rfl (by rw [ezx6, zc_i1]) (Nat.le_of_ble_eq_true rfl) rfl (fun ls hl => ?_)
        refine lv_goto (tgt := 3) hx hb dX11_numbers_32 rfl ?_
        exact zJ zx6 zm4 H locs ls hW (lv_sub hl [1, 2, 3, 4, 5, 0] rfl) h
  unfold wp_Model_numbers at h
  have zMain : ∀ (H : Heap) (locs : List Loc) (ls : Array Slot), zWo w s.heap M H locs → lv_has ls 6 [(0, .ref (zad w 0)), (1, .int a1), (2, .int a2), (3, .int a3), (4, .int a4)] → W p l e (zRm 3 67) s m ([.ref (zad w 0), .int a1, .int a2, .int a3, .int a4] : List Value).toArray below meth c H locs 0 0 (MQ below (va_Qv post (zB w) (zA w)) ([.ref (zad w 0), .int a1, .int a2, .int a3, .int a4] : List Value).toArray s 0 0 (zA w)) (F0 m 0 ls []) := by
    intro H locs ls hW hl
    refine lv_iconst hx hb dX11_numbers_0 zc_i0 ?_
    refine lv_istore (lv' := [(5, .int 0), (0, .ref (zad w 0)), (1, .int a1), (2, .int a2), (3, .int a3), (4, .int a4)]) hx hb dX11_numbers_1 hl (Nat.le_of_ble_eq_true rfl) rfl (fun ls hl => ?_)
    obtain ⟨n, h⟩ := h
    refine zL_3   n 0 M H locs ls hW (lv_sub hl [1, 2, 3, 4, 5, 0] rfl) h
  exact zMain s.heap [] ls hW hl
def wpJ_Model_readPiece_39   (Q : zMem → Prop)   (M : zMem) : Prop :=
  wp_Model_next M (fun zm3 => wp_Model_number 0 6 zm3 (fun zr6 zm5 => (¬ (zm5 0 3) = 0 → wp_Model_next zm5 (fun zm7 => Q zm7)) ∧ ((zm5 0 3) = 0 → vp_in 0 100 ∧ vp_in (30 + (zm5 5 (ix 0))) 100 ∧ ∀ zm9 : zMem, zm9 = zup zm5 5 (ix (30 + (zm5 5 (ix 0)))) zr6 → vp_in 0 100 ∧ vp_in 0 100 ∧ ∀ zm10 : zMem, zm10 = zup zm9 5 (ix 0) ((zm9 5 (ix 0)) + 1) → wp_Model_next zm10 (fun zm11 => Q zm11))))
def wpJ_Model_readPiece_34   (Q : zMem → Prop)   (M : zMem) : Prop :=
  wp_Model_fails 5 M (fun zm1 => wpJ_Model_readPiece_39  Q zm1)
def wp_Model_readPiece  (M : zMem) (Q : zMem → Prop) : Prop :=
  vp_in 0 100 ∧ ((M 5 (ix 0)) = 8 → wpJ_Model_readPiece_34  Q M) ∧ (¬ (M 5 (ix 0)) = 8 → (¬ (M 0 14) = 0 → wpJ_Model_readPiece_34  Q M) ∧ ((M 0 14) = 0 → vp_in 1 100 ∧ (0 < (M 5 (ix 1)) → wpJ_Model_readPiece_34  Q M) ∧ (¬ 0 < (M 5 (ix 1)) → ((M 0 15) = 0 → wpJ_Model_readPiece_39  Q M) ∧ (¬ (M 0 15) = 0 → wpJ_Model_readPiece_34  Q M))))
set_option maxHeartbeats 4000000 in
set_option maxRecDepth 20000 in
theorem c_Model_readPiece {l : Launch} {w : zWd} {M : zMem} {post : zMem → Prop} (h0 : zI_Model w) (h : wp_Model_readPiece  M post) : zMv l ⟨"HandToHandModel", "readPiece", "()V"⟩ prog_13_method_12_code 2 none 3 67 w [.ref (zad w 0)] M post := by
  refine zMet (by decide) (Nat.le_of_ble_eq_true rfl) ?_
  intro p e s m below meth c X hr hlk hml hW ls hl
  have hx := X.1
  have hb := X.2.1
  have hl : lv_has ls 2 [(0, .ref (zad w 0))] := hl
  have zJ_39 : ∀ (M : zMem) (H : Heap) (locs : List Loc) (ls : Array Slot), zWo w s.heap M H locs → lv_has ls 2 [(0, .ref (zad w 0))] → wpJ_Model_readPiece_39  post M → W p l e (zRm 3 67) s m ([.ref (zad w 0)] : List Value).toArray below meth c H locs 0 0 (MQ below (va_Qv post (zB w) (zA w)) ([.ref (zad w 0)] : List Value).toArray s 0 0 (zA w)) (F0 m 39 ls []) := by
    intro  M H locs ls hW hl h
    unfold wpJ_Model_readPiece_39 at h
    refine lv_aload_n hx hb dX11_readPiece_39 rfl (lv_at hl 0 rfl) ?_
    refine zcallv (zrunV (As := []) (rest := []) X hml hl hW h0.1 rfl zk_Model_114 (c_Model_next h0 h) rfl ⟨Nat.le_of_ble_eq_true rfl, Nat.le_of_ble_eq_true rfl⟩ ⟨Nat.le_refl 0, Nat.le_refl 0⟩ rfl (Nat.le_of_ble_eq_true rfl) dX11_readPiece_40) hW (fun zm3 H locs h hW => ?_)
    refine lv_aload_n hx hb dX11_readPiece_43 rfl (lv_at hl 0 rfl) ?_
    refine lv_iconst hx hb dX11_readPiece_44 zc_i0 ?_
    refine lv_bipush hx hb dX11_readPiece_45 zc_b6 ?_
    refine zcalli (zrunV (As := [.int 0, .int 6]) (rest := []) X hml hl hW h0.1 rfl zk_Model_111 (c_Model_number h0 h) rfl ⟨Nat.le_of_ble_eq_true rfl, Nat.le_of_ble_eq_true rfl⟩ ⟨Nat.le_refl 0, Nat.le_refl 0⟩ rfl (Nat.le_of_ble_eq_true rfl) dX11_readPiece_47) hW (fun zr6 zm5 H locs h hW => ?_)
    refine lv_istore_n (lv' := [(1, .int zr6), (0, .ref (zad w 0))]) hx hb dX11_readPiece_50 rfl hl (Nat.le_of_ble_eq_true rfl) rfl (fun ls hl => ?_)
    refine lv_aload_n hx hb dX11_readPiece_51 rfl (lv_at hl 1 rfl) ?_
    refine zg_Model_wrong X hW h0 zu_1023 dX11_readPiece_52 ?_
    refine lv_if_ne (tgt := 83) hx hb dX11_readPiece_55 rfl (fun c => ?_) (fun c => ?_)
    · replace h := h.1 c
      refine lv_aload_n hx hb dX11_readPiece_83 rfl (lv_at hl 1 rfl) ?_
      refine zcallv (zrunV (As := []) (rest := []) X hml hl hW h0.1 rfl zk_Model_114 (c_Model_next h0 h) rfl ⟨Nat.le_of_ble_eq_true rfl, Nat.le_of_ble_eq_true rfl⟩ ⟨Nat.le_refl 0, Nat.le_refl 0⟩ rfl (Nat.le_of_ble_eq_true rfl) dX11_readPiece_84) hW (fun zm7 H locs h hW => ?_)
      exact zretv X hr hlk hW h dX11_readPiece_87
    · replace h := h.2 c
      refine lv_aload_n hx hb dX11_readPiece_58 rfl (lv_at hl 1 rfl) ?_
      refine zg_Model_reads X hW h0 zu_1032 dX11_readPiece_59 ?_
      refine lv_bipush hx hb dX11_readPiece_62 zc_b30 ?_
      refine lv_aload_n hx hb dX11_readPiece_64 rfl (lv_at hl 1 rfl) ?_
      refine zg_Model_reads X hW h0 zu_1032 dX11_readPiece_65 ?_
      refine lv_iconst hx hb dX11_readPiece_68 zc_i0 ?_
      obtain ⟨g, h⟩ := h
      refine ziald X hW h0.2.2.2.2.2.1 g dX11_readPiece_69 ?_
      refine lv_iadd hx hb dX11_readPiece_70 ?_
      refine lv_iload_n hx hb dX11_readPiece_71 rfl (lv_at hl 0 rfl) ?_
      obtain ⟨g, h⟩ := h
      refine ziast X hW h0.2.2.2.2.2.1 g dX11_readPiece_72 (fun H locs zm9 ezm9 hW => ?_)
      replace h := h zm9 ezm9
      refine lv_aload_n hx hb dX11_readPiece_73 rfl (lv_at hl 1 rfl) ?_
      refine zg_Model_reads X hW h0 zu_1032 dX11_readPiece_74 ?_
      refine lv_iconst hx hb dX11_readPiece_77 zc_i0 ?_
      refine lv_dup2_11 hx hb dX11_readPiece_78 rfl rfl ?_
      obtain ⟨g, h⟩ := h
      refine ziald X hW h0.2.2.2.2.2.1 g dX11_readPiece_79 ?_
      refine lv_iconst hx hb dX11_readPiece_80 zc_i1 ?_
      refine lv_iadd hx hb dX11_readPiece_81 ?_
      obtain ⟨g, h⟩ := h
      refine ziast X hW h0.2.2.2.2.2.1 g dX11_readPiece_82 (fun H locs zm10 ezm10 hW => ?_)
      replace h := h zm10 ezm10
      refine lv_aload_n hx hb dX11_readPiece_83 rfl (lv_at hl 1 rfl) ?_
      refine zcallv (zrunV (As := []) (rest := []) X hml hl hW h0.1 rfl zk_Model_114 (c_Model_next h0 h) rfl ⟨Nat.le_of_ble_eq_true rfl, Nat.le_of_ble_eq_true rfl⟩ ⟨Nat.le_refl 0, Nat.le_refl 0⟩ rfl (Nat.le_of_ble_eq_true rfl) dX11_readPiece_84) hW (fun zm11 H locs h hW => ?_)
      exact zretv X hr hlk hW h dX11_readPiece_87
  have zJ_34 : ∀ (M : zMem) (H : Heap) (locs : List Loc) (ls : Array Slot), zWo w s.heap M H locs → lv_has ls 2 [(0, .ref (zad w 0))] → wpJ_Model_readPiece_34  post M → W p l e (zRm 3 67) s m ([.ref (zad w 0)] : List Value).toArray below meth c H locs 0 0 (MQ below (va_Qv post (zB w) (zA w)) ([.ref (zad w 0)] : List Value).toArray s 0 0 (zA w)) (F0 m 34 ls []) := by
    intro  M H locs ls hW hl h
    unfold wpJ_Model_readPiece_34 at h
    refine lv_aload_n hx hb dX11_readPiece_34 rfl (lv_at hl 0 rfl) ?_
    refine lv_iconst hx hb dX11_readPiece_35 zc_i5 ?_
    refine zcallv (zrunV (As := [.int 5]) (rest := []) X hml hl hW h0.1 rfl zk_Model_103 (c_Model_fails h0 h) rfl ⟨Nat.le_of_ble_eq_true rfl, Nat.le_of_ble_eq_true rfl⟩ ⟨Nat.le_refl 0, Nat.le_refl 0⟩ rfl (Nat.le_of_ble_eq_true rfl) dX11_readPiece_36) hW (fun zm1 H locs h hW => ?_)
    exact zJ_39  zm1 H locs ls hW (lv_sub hl [0] rfl) h
  unfold wp_Model_readPiece at h
  have zMain : ∀ (H : Heap) (locs : List Loc) (ls : Array Slot), zWo w s.heap M H locs → lv_has ls 2 [(0, .ref (zad w 0))] → W p l e (zRm 3 67) s m ([.ref (zad w 0)] : List Value).toArray below meth c H locs 0 0 (MQ below (va_Qv post (zB w) (zA w)) ([.ref (zad w 0)] : List Value).toArray s 0 0 (zA w)) (F0 m 0 ls []) := by
    intro H locs ls hW hl
    refine lv_aload_n hx hb dX11_readPiece_0 rfl (lv_at hl 0 rfl) ?_
    refine zg_Model_reads X hW h0 zu_1032 dX11_readPiece_1 ?_
    refine lv_iconst hx hb dX11_readPiece_4 zc_i0 ?_
    obtain ⟨g, h⟩ := h
    refine ziald X hW h0.2.2.2.2.2.1 g dX11_readPiece_5 ?_
    refine lv_bipush hx hb dX11_readPiece_6 zc_b8 ?_
    refine lv_icmp_eq (tgt := 34) hx hb dX11_readPiece_8 rfl (fun c => ?_) (fun c => ?_)
    · replace h := h.1 c
      exact zJ_34  M H locs ls hW (lv_sub hl [0] rfl) h
    · replace h := h.2 c
      refine lv_aload_n hx hb dX11_readPiece_11 rfl (lv_at hl 0 rfl) ?_
      refine zg_Model_toldSorts X hW h0 zu_1034 dX11_readPiece_12 ?_
      refine lv_if_ne (tgt := 34) hx hb dX11_readPiece_15 rfl (fun c => ?_) (fun c => ?_)
      · replace h := h.1 c
        exact zJ_34  M H locs ls hW (lv_sub hl [0] rfl) h
      · replace h := h.2 c
        refine lv_aload_n hx hb dX11_readPiece_18 rfl (lv_at hl 0 rfl) ?_
        refine zg_Model_reads X hW h0 zu_1032 dX11_readPiece_19 ?_
        refine lv_iconst hx hb dX11_readPiece_22 zc_i1 ?_
        obtain ⟨g, h⟩ := h
        refine ziald X hW h0.2.2.2.2.2.1 g dX11_readPiece_23 ?_
        refine lv_if_gt (tgt := 34) hx hb dX11_readPiece_24 rfl (fun c => ?_) (fun c => ?_)
        · replace h := h.1 c
          exact zJ_34  M H locs ls hW (lv_sub hl [0] rfl) h
        · replace h := h.2 c
          refine lv_aload_n hx hb dX11_readPiece_27 rfl (lv_at hl 0 rfl) ?_
          refine zg_Model_hasEnds X hW h0 zu_1035 dX11_readPiece_28 ?_
          refine lv_if_eq (tgt := 39) hx hb dX11_readPiece_31 rfl (fun c => ?_) (fun c => ?_)
          · replace h := h.1 c
            exact zJ_39  M H locs ls hW (lv_sub hl [0] rfl) h
          · replace h := h.2 c
            exact zJ_34  M H locs ls hW (lv_sub hl [0] rfl) h
  exact zMain s.heap [] ls hW hl
