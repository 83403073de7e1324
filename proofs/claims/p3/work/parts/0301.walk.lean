def wp_Told_ticksOf (k : Nat) (a1 : Int32) (a2 : Int32) (a3 : Int32) (M : zMem) (Q : Int32 → zMem → Prop) : Prop :=
  vp_in ((a1 * 8) + a2) 40 ∧ ∀ zx1 : Int32, zx1 = M (k + 3) (ix ((a1 * 8) + a2)) → ((M k 3) ≤ 0 → (1 ≤ zx1 → Q zx1 M) ∧ (¬ 1 ≤ zx1 → Q 1 M)) ∧ (¬ (M k 3) ≤ 0 → (¬ (M k 3) = 0) ∧ ∀ zx2 : Int32, zx2 = zx1 - (a3 / (M k 3)) → (1 ≤ zx2 → Q zx2 M) ∧ (¬ 1 ≤ zx2 → Q 1 M))
set_option maxHeartbeats 4000000 in
set_option maxRecDepth 20000 in
theorem c_Told_ticksOf {l : Launch} {w : zWd} {k : Nat} {a1 : Int32} {a2 : Int32} {a3 : Int32} {M : zMem} {post : Int32 → zMem → Prop} (h0 : zI_Told w k) (h : wp_Told_ticksOf k a1 a2 a3 M post) : zMi l ⟨"HandToHand$Told", "ticksOf", "(III)I"⟩ prog_11_method_14_code 5 (Option.some .int) 0 0 w [.ref (zad w k), .int a1, .int a2, .int a3] M post := by
  refine zMet (by decide) (Nat.le_of_ble_eq_true rfl) ?_
  intro p e s m below meth c X hr hlk hml hW ls hl
  have hx := X.1
  have hb := X.2.1
  have hl : lv_has ls 5 [(0, .ref (zad w k)), (1, .int a1), (2, .int a2), (3, .int a3)] := hl
  unfold wp_Told_ticksOf at h
  have zMain : ∀ (H : Heap) (locs : List Loc) (ls : Array Slot), zWo w s.heap M H locs → lv_has ls 5 [(0, .ref (zad w k)), (1, .int a1), (2, .int a2), (3, .int a3)] → W p l e (zRm 0 0) s m ([.ref (zad w k), .int a1, .int a2, .int a3] : List Value).toArray below meth c H locs 0 0 (MQ below (va_Qi post (zB w) (zA w)) ([.ref (zad w k), .int a1, .int a2, .int a3] : List Value).toArray s 0 0 (zA w)) (F0 m 0 ls []) := by
    intro H locs ls hW hl
    refine lv_aload_n hx hb dX9_ticksOf_0 rfl (lv_at hl 0 rfl) ?_
    refine zg_Told_paces X hW h0 zu_65 dX9_ticksOf_1 ?_
    refine lv_iload_n hx hb dX9_ticksOf_4 rfl (lv_at hl 1 rfl) ?_
    refine lv_bipush hx hb dX9_ticksOf_5 zc_b8 ?_
    refine lv_imul hx hb dX9_ticksOf_7 ?_
    refine lv_iload_n hx hb dX9_ticksOf_8 rfl (lv_at hl 2 rfl) ?_
    refine lv_iadd hx hb dX9_ticksOf_9 ?_
    obtain ⟨g, h⟩ := h
    refine ziald X hW h0.2.2.2.1 g dX9_ticksOf_10 ?_
    refine lv_topi (fun zx1 ezx1 => ?_)
    replace h := h zx1 ezx1
    refine lv_istore (lv' := [(4, .int zx1), (0, .ref (zad w k)), (1, .int a1), (2, .int a2), (3, .int a3)]) hx hb dX9_ticksOf_11 hl (Nat.le_of_ble_eq_true rfl) rfl (fun ls hl => ?_)
    refine lv_aload_n hx hb dX9_ticksOf_13 rfl (lv_at hl 1 rfl) ?_
    refine zg_Told_learn X hW h0 zu_46 dX9_ticksOf_14 ?_
    refine lv_if_le (tgt := 31) hx hb dX9_ticksOf_17 rfl (fun c => ?_) (fun c => ?_)
    · replace h := h.1 c
      refine lv_iload hx hb dX9_ticksOf_31 (lv_at hl 0 rfl) ?_
      refine lv_iconst hx hb dX9_ticksOf_33 zc_i1 ?_
      refine lv_icmp_ge (tgt := 41) hx hb dX9_ticksOf_34 rfl (fun c => ?_) (fun c => ?_)
      · replace h := h.1 c
        refine lv_iload hx hb dX9_ticksOf_41 (lv_at hl 0 rfl) ?_
        exact zreti X hr hlk hW h dX9_ticksOf_43
      · replace h := h.2 c
        refine lv_iconst hx hb dX9_ticksOf_37 zc_i1 ?_
        refine lv_goto (tgt := 43) hx hb dX9_ticksOf_38 rfl ?_
        exact zreti X hr hlk hW h dX9_ticksOf_43
    · replace h := h.2 c
      refine lv_iload hx hb dX9_ticksOf_20 (lv_at hl 0 rfl) ?_
      refine lv_iload_n hx hb dX9_ticksOf_22 rfl (lv_at hl 4 rfl) ?_
      refine lv_aload_n hx hb dX9_ticksOf_23 rfl (lv_at hl 1 rfl) ?_
      refine zg_Told_learn X hW h0 zu_46 dX9_ticksOf_24 ?_
      obtain ⟨g, h⟩ := h
      refine lv_idiv hx hb dX9_ticksOf_27 g ?_
      refine lv_isub hx hb dX9_ticksOf_28 ?_
      refine lv_topi (fun zx2 ezx2 => ?_)
      replace h := h zx2 ezx2
      refine lv_istore (lv' := [(4, .int zx2), (0, .ref (zad w k)), (1, .int a1), (2, .int a2), (3, .int a3)]) hx hb dX9_ticksOf_29 hl (Nat.le_of_ble_eq_true rfl) rfl (fun ls hl => ?_)
      refine lv_iload hx hb dX9_ticksOf_31 (lv_at hl 0 rfl) ?_
      refine lv_iconst hx hb dX9_ticksOf_33 zc_i1 ?_
      refine lv_icmp_ge (tgt := 41) hx hb dX9_ticksOf_34 rfl (fun c => ?_) (fun c => ?_)
      · replace h := h.1 c
        refine lv_iload hx hb dX9_ticksOf_41 (lv_at hl 0 rfl) ?_
        exact zreti X hr hlk hW h dX9_ticksOf_43
      · replace h := h.2 c
        refine lv_iconst hx hb dX9_ticksOf_37 zc_i1 ?_
        refine lv_goto (tgt := 43) hx hb dX9_ticksOf_38 rfl ?_
        exact zreti X hr hlk hW h dX9_ticksOf_43
  exact zMain s.heap [] ls hW hl
def wp_Told_learnedThatCounts (k : Nat) (a1 : Int32) (a2 : Int32) (a3 : Int32) (M : zMem) (Q : Int32 → zMem → Prop) : Prop :=
  wp_Told_paceOf k a1 a2 M (fun zr2 zm1 => ∀ zx3 : Int32, zx3 = (M k 3) * (zr2 - 1) → (zx3 ≤ a3 → Q zx3 zm1) ∧ (¬ zx3 ≤ a3 → Q a3 zm1))
set_option maxHeartbeats 4000000 in
set_option maxRecDepth 20000 in
theorem c_Told_learnedThatCounts {l : Launch} {w : zWd} {k : Nat} {a1 : Int32} {a2 : Int32} {a3 : Int32} {M : zMem} {post : Int32 → zMem → Prop} (h0 : zI_Told w k) (h : wp_Told_learnedThatCounts k a1 a2 a3 M post) : zMi l ⟨"HandToHand$Told", "learnedThatCounts", "(III)I"⟩ prog_11_method_15_code 5 (Option.some .int) 1 22 w [.ref (zad w k), .int a1, .int a2, .int a3] M post := by
  refine zMet (by decide) (Nat.le_of_ble_eq_true rfl) ?_
  intro p e s m below meth c X hr hlk hml hW ls hl
  have hx := X.1
  have hb := X.2.1
  have hl : lv_has ls 5 [(0, .ref (zad w k)), (1, .int a1), (2, .int a2), (3, .int a3)] := hl
  unfold wp_Told_learnedThatCounts at h
  have zMain : ∀ (H : Heap) (locs : List Loc) (ls : Array Slot), zWo w s.heap M H locs → lv_has ls 5 [(0, .ref (zad w k)), (1, .int a1), (2, .int a2), (3, .int a3)] → W p l e (zRm 1 22) s m ([.ref (zad w k), .int a1, .int a2, .int a3] : List Value).toArray below meth c H locs 0 0 (MQ below (va_Qi post (zB w) (zA w)) ([.ref (zad w k), .int a1, .int a2, .int a3] : List Value).toArray s 0 0 (zA w)) (F0 m 0 ls []) := by
    intro H locs ls hW hl
    refine lv_aload_n hx hb dX9_learnedThatCounts_0 rfl (lv_at hl 0 rfl) ?_
    refine zg_Told_learn X hW h0 zu_46 dX9_learnedThatCounts_1 ?_
    refine lv_aload_n hx hb dX9_learnedThatCounts_4 rfl (lv_at hl 0 rfl) ?_
    refine lv_iload_n hx hb dX9_learnedThatCounts_5 rfl (lv_at hl 1 rfl) ?_
    refine lv_iload_n hx hb dX9_learnedThatCounts_6 rfl (lv_at hl 2 rfl) ?_
    refine zcalli (zrunV (As := [.int a1, .int a2]) (rest := [.int (M k 3)]) X hml hl hW h0.1 rfl zk_Told_62 (c_Told_paceOf h0 h) rfl ⟨Nat.le_of_ble_eq_true rfl, Nat.le_of_ble_eq_true rfl⟩ ⟨Nat.le_refl 0, Nat.le_refl 0⟩ rfl (Nat.le_of_ble_eq_true rfl) dX9_learnedThatCounts_7) hW (fun zr2 zm1 H locs h hW => ?_)
    refine lv_iconst hx hb dX9_learnedThatCounts_10 zc_i1 ?_
    refine lv_isub hx hb dX9_learnedThatCounts_11 ?_
    refine lv_imul hx hb dX9_learnedThatCounts_12 ?_
    refine lv_topi (fun zx3 ezx3 => ?_)
    replace h := h zx3 ezx3
    refine lv_istore (lv' := [(4, .int zx3), (0, .ref (zad w k)), (1, .int a1), (2, .int a2), (3, .int a3)]) hx hb dX9_learnedThatCounts_13 hl (Nat.le_of_ble_eq_true rfl) rfl (fun ls hl => ?_)
    refine lv_iload_n hx hb dX9_learnedThatCounts_15 rfl (lv_at hl 4 rfl) ?_
    refine lv_iload hx hb dX9_learnedThatCounts_16 (lv_at hl 0 rfl) ?_
    refine lv_icmp_ge (tgt := 25) hx hb dX9_learnedThatCounts_18 rfl (fun c => ?_) (fun c => ?_)
    · replace h := h.1 c
      refine lv_iload hx hb dX9_learnedThatCounts_25 (lv_at hl 0 rfl) ?_
      exact zreti X hr hlk hW h dX9_learnedThatCounts_27
    · replace h := h.2 c
      refine lv_iload_n hx hb dX9_learnedThatCounts_21 rfl (lv_at hl 4 rfl) ?_
      refine lv_goto (tgt := 27) hx hb dX9_learnedThatCounts_22 rfl ?_
      exact zreti X hr hlk hW h dX9_learnedThatCounts_27
  exact zMain s.heap [] ls hW hl
def wpB_Told_ticksAlone_17 (k : Nat) (a1 : Int32) (x_4 : Int32) (K57 : Int64 → zMem → Prop) (Q : Int64 → zMem → Prop) (J : Int64 → Int32 → zMem → Prop) (x_2 : Int64) (x_5 : Int32) (M : zMem) : Prop :=
  ((M k 0) ≤ x_5 → K57 x_2 M) ∧ (¬ (M k 0) ≤ x_5 → vp_in x_4 6 ∧ wp_Told_unitsOf k (M (k + 1) (ix x_4)) x_5 M (fun zr2 zm1 => wp_Told_paceOf k a1 x_5 zm1 (fun zr4 zm3 => ∀ zx5 : Int64, zx5 = x_2 + ((zr2 * zr4).toInt64) → ∀ zx6 : Int32, zx6 = x_5 + 1 → J zx5 zx6 zm3)))
def wpB_Told_ticksAlone_5 (k : Nat) (a1 : Int32)   (Q : Int64 → zMem → Prop) (J : Int64 → Int32 → zMem → Prop) (x_2 : Int64) (x_4 : Int32) (M : zMem) : Prop :=
  ((M k 6) ≤ x_4 → Q x_2 M) ∧ (¬ (M k 6) ≤ x_4 → ∃ n : Nat, zlp2 (wpB_Told_ticksAlone_17 k a1 x_4 (fun (zx8 : Int64) (zm7 : zMem) => ∀ zx9 : Int32, zx9 = x_4 + 1 → J zx8 zx9 zm7) Q) n x_2 0 M)
def wp_Told_ticksAlone (k : Nat) (a1 : Int32) (M : zMem) (Q : Int64 → zMem → Prop) : Prop :=
  ∃ n : Nat, zlp2 (wpB_Told_ticksAlone_5 k a1   Q) n 0 0 M
set_option maxHeartbeats 4000000 in
set_option maxRecDepth 20000 in
theorem c_Told_ticksAlone {l : Launch} {w : zWd} {k : Nat} {a1 : Int32} {M : zMem} {post : Int64 → zMem → Prop} (h0 : zI_Told w k) (h : wp_Told_ticksAlone k a1 M post) : zMl l ⟨"HandToHand$Told", "ticksAlone", "(I)J"⟩ prog_11_method_16_code 6 (Option.some .long) 1 22 w [.ref (zad w k), .int a1] M post := by
  refine zMet (by decide) (Nat.le_of_ble_eq_true rfl) ?_
  intro p e s m below meth c X hr hlk hml hW ls hl
  have hx := X.1
  have hb := X.2.1
  have hl : lv_has ls 6 [(0, .ref (zad w k)), (1, .int a1)] := hl
  have zL_17 : ∀ (x_4 : Int32) (K57 : Int64 → zMem → Prop) (zK57 : ∀ (y_2 : Int64) (M : zMem) (H : Heap) (locs : List Loc) (ls : Array Slot), zWo w s.heap M H locs → lv_has ls 6 [(0, .ref (zad w k)), (1, .int a1), (2, .long y_2), (4, .int x_4)] → K57 y_2 M → W p l e (zRm 1 22) s m ([.ref (zad w k), .int a1] : List Value).toArray below meth c H locs 0 0 (MQ below (va_Ql post (zB w) (zA w)) ([.ref (zad w k), .int a1] : List Value).toArray s 0 0 (zA w)) (F0 m 57 ls [])), ∀ (n : Nat) (x_2 : Int64) (x_5 : Int32) (M : zMem) (H : Heap) (locs : List Loc) (ls : Array Slot), zWo w s.heap M H locs → lv_has ls 6 [(0, .ref (zad w k)), (1, .int a1), (2, .long x_2), (4, .int x_4), (5, .int x_5)] → zlp2 (wpB_Told_ticksAlone_17 k a1 x_4 K57 post) n x_2 x_5 M → W p l e (zRm 1 22) s m ([.ref (zad w k), .int a1] : List Value).toArray below meth c H locs 0 0 (MQ below (va_Ql post (zB w) (zA w)) ([.ref (zad w k), .int a1] : List Value).toArray s 0 0 (zA w)) (F0 m 17 ls []) := by
    intro x_4 K57 zK57 n
    induction n with
    | zero => intro x_2 x_5 M H locs ls hW hl h; exact h.elim
    | succ n zJ =>
      intro x_2 x_5 M H locs ls hW hl h
      have h : wpB_Told_ticksAlone_17 k a1 x_4 K57 post (zlp2 (wpB_Told_ticksAlone_17 k a1 x_4 K57 post) n) x_2 x_5 M := h
      unfold wpB_Told_ticksAlone_17 at h
      refine lv_iload hx hb dX9_ticksAlone_17 (lv_at hl 4 rfl) ?_
      refine lv_aload_n hx hb dX9_ticksAlone_19 rfl (lv_at hl 0 rfl) ?_
      refine zg_Told_pieces X hW h0 zu_32 dX9_ticksAlone_20 ?_
      refine lv_icmp_ge (tgt := 57) hx hb dX9_ticksAlone_23 rfl (fun c => ?_) (fun c => ?_)
      · replace h := h.1 c
        exact zK57 x_2 M H locs ls hW (lv_sub hl [0, 1, 2, 3] rfl) h
      · replace h := h.2 c
        refine lv_lload_n hx hb dX9_ticksAlone_26 rfl (lv_at hl 2 rfl) ?_
        refine lv_aload_n hx hb dX9_ticksAlone_27 rfl (lv_at hl 0 rfl) ?_
        refine lv_aload_n hx hb dX9_ticksAlone_28 rfl (lv_at hl 0 rfl) ?_
        refine zg_Told_row X hW h0 zu_59 dX9_ticksAlone_29 ?_
        refine lv_iload hx hb dX9_ticksAlone_32 (lv_at hl 3 rfl) ?_
        obtain ⟨g, h⟩ := h
        refine ziald X hW h0.2.1 g dX9_ticksAlone_34 ?_
        refine lv_iload hx hb dX9_ticksAlone_35 (lv_at hl 4 rfl) ?_
        refine zcalli (zrunV (As := [.int (M (k + 1) (ix x_4)), .int x_5]) (rest := [.long x_2]) X hml hl hW h0.1 rfl zk_Told_66 (c_Told_unitsOf h0 h) rfl ⟨Nat.le_of_ble_eq_true rfl, Nat.le_of_ble_eq_true rfl⟩ ⟨Nat.le_refl 0, Nat.le_refl 0⟩ rfl (Nat.le_of_ble_eq_true rfl) dX9_ticksAlone_37) hW (fun zr2 zm1 H locs h hW => ?_)
        refine lv_aload_n hx hb dX9_ticksAlone_40 rfl (lv_at hl 0 rfl) ?_
        refine lv_iload_n hx hb dX9_ticksAlone_41 rfl (lv_at hl 1 rfl) ?_
        refine lv_iload hx hb dX9_ticksAlone_42 (lv_at hl 4 rfl) ?_
        refine zcalli (zrunV (As := [.int a1, .int x_5]) (rest := [.int zr2, .long x_2]) X hml hl hW h0.1 rfl zk_Told_62 (c_Told_paceOf h0 h) rfl ⟨Nat.le_of_ble_eq_true rfl, Nat.le_of_ble_eq_true rfl⟩ ⟨Nat.le_refl 0, Nat.le_refl 0⟩ rfl (Nat.le_of_ble_eq_true rfl) dX9_ticksAlone_44) hW (fun zr4 zm3 H locs h hW => ?_)
        refine lv_imul hx hb dX9_ticksAlone_47 ?_
        refine lv_i2l hx hb dX9_ticksAlone_48 rfl ?_
        refine lv_ladd hx hb dX9_ticksAlone_49 ?_
        refine lv_topl (fun zx5 ezx5 => ?_)
        replace h := h zx5 ezx5
        refine lv_lstore_n (lv' := [(2, .long zx5), (0, .ref (zad w k)), (1, .int a1), (4, .int x_4), (5, .int x_5)]) hx hb dX9_ticksAlone_50 rfl hl (Nat.le_of_ble_eq_true rfl) rfl (fun ls hl => ?_)
        obtain ⟨zx6, ezx6⟩ : ∃ y : Int32, y = x_5 + 1 := ⟨_, rfl⟩
        replace h := h zx6 ezx6
        refine lv_iinc (v := zx6) (lv' := [(5, .int zx6), (2, .long zx5), (0, .ref (zad w k)), (1, .int a1), (4, .int x_4)]) hx hb dX9_ticksAlone_51 hl (k := 4) rfl (by rw [ezx6, zc_i1]) (Nat.le_of_ble_eq_true rfl) rfl (fun ls hl => ?_)
        refine lv_goto (tgt := 17) hx hb dX9_ticksAlone_54 rfl ?_
        exact zJ zx5 zx6 zm3 H locs ls hW (lv_sub hl [2, 3, 1, 4, 0] rfl) h
  have zL_5 :  ∀ (n : Nat) (x_2 : Int64) (x_4 : Int32) (M : zMem) (H : Heap) (locs : List Loc) (ls : Array Slot), zWo w s.heap M H locs → lv_has ls 6 [(0, .ref (zad w k)), (1, .int a1), (2, .long x_2), (4, .int x_4)] → zlp2 (wpB_Told_ticksAlone_5 k a1   post) n x_2 x_4 M → W p l e (zRm 1 22) s m ([.ref (zad w k), .int a1] : List Value).toArray below meth c H locs 0 0 (MQ below (va_Ql post (zB w) (zA w)) ([.ref (zad w k), .int a1] : List Value).toArray s 0 0 (zA w)) (F0 m 5 ls []) := by
    intro n
    induction n with
    | zero => intro x_2 x_4 M H locs ls hW hl h; exact h.elim
    | succ n zJ =>
      intro x_2 x_4 M H locs ls hW hl h
      have h : wpB_Told_ticksAlone_5 k a1   post (zlp2 (wpB_Told_ticksAlone_5 k a1   post) n) x_2 x_4 M := h
      unfold wpB_Told_ticksAlone_5 at h
      refine lv_iload hx hb dX9_ticksAlone_5 (lv_at hl 3 rfl) ?_
      refine lv_aload_n hx hb dX9_ticksAlone_7 rfl (lv_at hl 0 rfl) ?_
      refine zg_Told_rowLength X hW h0 zu_55 dX9_ticksAlone_8 ?_
      refine lv_icmp_ge (tgt := 63) hx hb dX9_ticksAlone_11 rfl (fun c => ?_) (fun c => ?_)
      · replace h := h.1 c
        refine lv_lload_n hx hb dX9_ticksAlone_63 rfl (lv_at hl 2 rfl) ?_
        exact zretl X hr hlk hW h dX9_ticksAlone_64
      · replace h := h.2 c
        refine lv_iconst hx hb dX9_ticksAlone_14 zc_i0 ?_
        refine lv_istore (lv' := [(5, .int 0), (0, .ref (zad w k)), (1, .int a1), (2, .long x_2), (4, .int x_4)]) hx hb dX9_ticksAlone_15 hl (Nat.le_of_ble_eq_true rfl) rfl (fun ls hl => ?_)
        obtain ⟨n, h⟩ := h
        refine zL_17 x_4 _ (fun zx8 zm7 H locs ls hW hl h => ?_) n x_2 0 M H locs ls hW (lv_sub hl [1, 2, 3, 4, 0] rfl) h
        · skip
          obtain ⟨zx9, ezx9⟩ : ∃ y : Int32, y = x_4 + 1 := ⟨_, rfl⟩
          replace h := h zx9 ezx9
          refine lv_iinc (v := zx9) (lv' := [(4, .int zx9), (0, .ref (zad w k)), (1, .int a1), (2, .long zx8)]) hx hb dX9_ticksAlone_57 hl (k := 3) rfl (by rw [ezx9, zc_i1]) (Nat.le_of_ble_eq_true rfl) rfl (fun ls hl => ?_)
          refine lv_goto (tgt := 5) hx hb dX9_ticksAlone_60 rfl ?_
          exact zJ zx8 zx9 zm7 H locs ls hW (lv_sub hl [1, 2, 3, 0] rfl) h
  unfold wp_Told_ticksAlone at h
  have zMain : ∀ (H : Heap) (locs : List Loc) (ls : Array Slot), zWo w s.heap M H locs → lv_has ls 6 [(0, .ref (zad w k)), (1, .int a1)] → W p l e (zRm 1 22) s m ([.ref (zad w k), .int a1] : List Value).toArray below meth c H locs 0 0 (MQ below (va_Ql post (zB w) (zA w)) ([.ref (zad w k), .int a1] : List Value).toArray s 0 0 (zA w)) (F0 m 0 ls []) := by
    intro H locs ls hW hl
    refine lv_lconst hx hb dX9_ticksAlone_0 zc_l0 ?_
    refine lv_lstore_n (lv' := [(2, .long 0), (0, .ref (zad w k)), (1, .int a1)]) hx hb dX9_ticksAlone_1 rfl hl (Nat.le_of_ble_eq_true rfl) rfl (fun ls hl => ?_)
    refine lv_iconst hx hb dX9_ticksAlone_2 zc_i0 ?_
    refine lv_istore (lv' := [(4, .int 0), (2, .long 0), (0, .ref (zad w k)), (1, .int a1)]) hx hb dX9_ticksAlone_3 hl (Nat.le_of_ble_eq_true rfl) rfl (fun ls hl => ?_)
    obtain ⟨n, h⟩ := h
    refine zL_5   n 0 0 M H locs ls hW (lv_sub hl [2, 3, 1, 0] rfl) h
  exact zMain s.heap [] ls hW hl
def wp_Handings_note (k : Nat) (a1 : Int32) (a2 : Int32) (a3 : Int32) (a4 : Int32) (a5 : Int32) (M : zMem) (Q : zMem → Prop) : Prop :=
  ((M k 0) < 600 → ∀ zx1 : Int32, zx1 = (M k 0) * 5 → vp_in (zx1 + 0) 3000 ∧ ∀ zm2 : zMem, zm2 = zup M (k + 1) (ix (zx1 + 0)) a1 → vp_in (zx1 + 1) 3000 ∧ ∀ zm3 : zMem, zm3 = zup zm2 (k + 1) (ix (zx1 + 1)) a2 → vp_in (zx1 + 2) 3000 ∧ ∀ zm4 : zMem, zm4 = zup zm3 (k + 1) (ix (zx1 + 2)) a3 → vp_in (zx1 + 3) 3000 ∧ ∀ zm5 : zMem, zm5 = zup zm4 (k + 1) (ix (zx1 + 3)) a4 → vp_in (zx1 + 4) 3000 ∧ ∀ zm6 : zMem, zm6 = zup zm5 (k + 1) (ix (zx1 + 4)) a5 → ∀ zm7 : zMem, zm7 = zup zm6 k 0 ((zm6 k 0) + 1) → Q zm7) ∧ (¬ (M k 0) < 600 → Q M)
set_option maxHeartbeats 4000000 in
set_option maxRecDepth 20000 in
theorem c_Handings_note {l : Launch} {w : zWd} {k : Nat} {a1 : Int32} {a2 : Int32} {a3 : Int32} {a4 : Int32} {a5 : Int32} {M : zMem} {post : zMem → Prop} (h0 : zI_Handings w k) (h : wp_Handings_note k a1 a2 a3 a4 a5 M post) : zMv l ⟨"HandToHand$Handings", "note", "(IIIII)V"⟩ prog_4_method_2_code 7 none 0 0 w [.ref (zad w k), .int a1, .int a2, .int a3, .int a4, .int a5] M post := by
  refine zMet (by decide) (Nat.le_of_ble_eq_true rfl) ?_
  intro p e s m below meth c X hr hlk hml hW ls hl
  have hx := X.1
  have hb := X.2.1
  have hl : lv_has ls 7 [(0, .ref (zad w k)), (1, .int a1), (2, .int a2), (3, .int a3), (4, .int a4), (5, .int a5)] := hl
  unfold wp_Handings_note at h
  have zMain : ∀ (H : Heap) (locs : List Loc) (ls : Array Slot), zWo w s.heap M H locs → lv_has ls 7 [(0, .ref (zad w k)), (1, .int a1), (2, .int a2), (3, .int a3), (4, .int a4), (5, .int a5)] → W p l e (zRm 0 0) s m ([.ref (zad w k), .int a1, .int a2, .int a3, .int a4, .int a5] : List Value).toArray below meth c H locs 0 0 (MQ below (va_Qv post (zB w) (zA w)) ([.ref (zad w k), .int a1, .int a2, .int a3, .int a4, .int a5] : List Value).toArray s 0 0 (zA w)) (F0 m 0 ls []) := by
    intro H locs ls hW hl
    refine lv_aload_n hx hb dX2_note_0 rfl (lv_at hl 0 rfl) ?_
    refine zg_Handings_size X hW h0 zu_233 dX2_note_1 ?_
    refine lv_sipush hx hb dX2_note_4 zc_s600 ?_
    refine lv_icmp_lt (tgt := 11) hx hb dX2_note_7 rfl (fun c => ?_) (fun c => ?_)
    · replace h := h.1 c
      refine lv_aload_n hx hb dX2_note_11 rfl (lv_at hl 0 rfl) ?_
      refine zg_Handings_size X hW h0 zu_233 dX2_note_12 ?_
      refine lv_iconst hx hb dX2_note_15 zc_i5 ?_
      refine lv_imul hx hb dX2_note_16 ?_
      refine lv_topi (fun zx1 ezx1 => ?_)
      replace h := h zx1 ezx1
      refine lv_istore (lv' := [(6, .int zx1), (0, .ref (zad w k)), (1, .int a1), (2, .int a2), (3, .int a3), (4, .int a4), (5, .int a5)]) hx hb dX2_note_17 hl (Nat.le_of_ble_eq_true rfl) rfl (fun ls hl => ?_)
      refine lv_aload_n hx hb dX2_note_19 rfl (lv_at hl 1 rfl) ?_
      refine zg_Handings_values X hW h0 zu_236 dX2_note_20 ?_
      refine lv_iload hx hb dX2_note_23 (lv_at hl 0 rfl) ?_
      refine lv_iconst hx hb dX2_note_25 zc_i0 ?_
      refine lv_iadd hx hb dX2_note_26 ?_
      refine lv_iload_n hx hb dX2_note_27 rfl (lv_at hl 2 rfl) ?_
      obtain ⟨g, h⟩ := h
      refine ziast X hW h0.2 g dX2_note_28 (fun H locs zm2 ezm2 hW => ?_)
      replace h := h zm2 ezm2
      refine lv_aload_n hx hb dX2_note_29 rfl (lv_at hl 1 rfl) ?_
      refine zg_Handings_values X hW h0 zu_236 dX2_note_30 ?_
      refine lv_iload hx hb dX2_note_33 (lv_at hl 0 rfl) ?_
      refine lv_iconst hx hb dX2_note_35 zc_i1 ?_
      refine lv_iadd hx hb dX2_note_36 ?_
      refine lv_iload_n hx hb dX2_note_37 rfl (lv_at hl 3 rfl) ?_
      obtain ⟨g, h⟩ := h
      refine ziast X hW h0.2 g dX2_note_38 (fun H locs zm3 ezm3 hW => ?_)
      replace h := h zm3 ezm3
      refine lv_aload_n hx hb dX2_note_39 rfl (lv_at hl 1 rfl) ?_
      refine zg_Handings_values X hW h0 zu_236 dX2_note_40 ?_
      refine lv_iload hx hb dX2_note_43 (lv_at hl 0 rfl) ?_
      refine lv_iconst hx hb dX2_note_45 zc_i2 ?_
      refine lv_iadd hx hb dX2_note_46 ?_
      refine lv_iload_n hx hb dX2_note_47 rfl (lv_at hl 4 rfl) ?_
      obtain ⟨g, h⟩ := h
      refine ziast X hW h0.2 g dX2_note_48 (fun H locs zm4 ezm4 hW => ?_)
      replace h := h zm4 ezm4
      refine lv_aload_n hx hb dX2_note_49 rfl (lv_at hl 1 rfl) ?_
      refine zg_Handings_values X hW h0 zu_236 dX2_note_50 ?_
      refine lv_iload hx hb dX2_note_53 (lv_at hl 0 rfl) ?_
      refine lv_iconst hx hb dX2_note_55 zc_i3 ?_
      refine lv_iadd hx hb dX2_note_56 ?_
      refine lv_iload hx hb dX2_note_57 (lv_at hl 5 rfl) ?_
      obtain ⟨g, h⟩ := h
      refine ziast X hW h0.2 g dX2_note_59 (fun H locs zm5 ezm5 hW => ?_)
      replace h := h zm5 ezm5
      refine lv_aload_n hx hb dX2_note_60 rfl (lv_at hl 1 rfl) ?_
      refine zg_Handings_values X hW h0 zu_236 dX2_note_61 ?_
      refine lv_iload hx hb dX2_note_64 (lv_at hl 0 rfl) ?_
      refine lv_iconst hx hb dX2_note_66 zc_i4 ?_
      refine lv_iadd hx hb dX2_note_67 ?_
      refine lv_iload hx hb dX2_note_68 (lv_at hl 6 rfl) ?_
      obtain ⟨g, h⟩ := h
      refine ziast X hW h0.2 g dX2_note_70 (fun H locs zm6 ezm6 hW => ?_)
      replace h := h zm6 ezm6
      refine lv_aload_n hx hb dX2_note_71 rfl (lv_at hl 1 rfl) ?_
      refine lv_dup hx hb dX2_note_72 rfl ?_
      refine zg_Handings_size X hW h0 zu_233 dX2_note_73 ?_
      refine lv_iconst hx hb dX2_note_76 zc_i1 ?_
      refine lv_iadd hx hb dX2_note_77 ?_
      refine zp_Handings_size X hW h0 zu_233 dX2_note_78 (fun H locs zm7 ezm7 hW => ?_)
      replace h := h zm7 ezm7
      exact zretv X hr hlk hW h dX2_note_81
    · replace h := h.2 c
      exact zretv X hr hlk hW h dX2_note_10
  exact zMain s.heap [] ls hW hl
def wp_Handings_valueOf (k : Nat) (a1 : Int32) (a2 : Int32) (M : zMem) (Q : Int32 → zMem → Prop) : Prop :=
  vp_in ((a1 * 5) + a2) 3000 ∧ Q (M (k + 1) (ix ((a1 * 5) + a2))) M
set_option maxHeartbeats 4000000 in
set_option maxRecDepth 20000 in
theorem c_Handings_valueOf {l : Launch} {w : zWd} {k : Nat} {a1 : Int32} {a2 : Int32} {M : zMem} {post : Int32 → zMem → Prop} (h0 : zI_Handings w k) (h : wp_Handings_valueOf k a1 a2 M post) : zMi l ⟨"HandToHand$Handings", "valueOf", "(II)I"⟩ prog_4_method_3_code 3 (Option.some .int) 0 0 w [.ref (zad w k), .int a1, .int a2] M post := by
  refine zMet (by decide) (Nat.le_of_ble_eq_true rfl) ?_
  intro p e s m below meth c X hr hlk hml hW ls hl
  have hx := X.1
  have hb := X.2.1
  have hl : lv_has ls 3 [(0, .ref (zad w k)), (1, .int a1), (2, .int a2)] := hl
  unfold wp_Handings_valueOf at h
  have zMain : ∀ (H : Heap) (locs : List Loc) (ls : Array Slot), zWo w s.heap M H locs → lv_has ls 3 [(0, .ref (zad w k)), (1, .int a1), (2, .int a2)] → W p l e (zRm 0 0) s m ([.ref (zad w k), .int a1, .int a2] : List Value).toArray below meth c H locs 0 0 (MQ below (va_Qi post (zB w) (zA w)) ([.ref (zad w k), .int a1, .int a2] : List Value).toArray s 0 0 (zA w)) (F0 m 0 ls []) := by
    intro H locs ls hW hl
    refine lv_aload_n hx hb dX2_valueOf_0 rfl (lv_at hl 0 rfl) ?_
    refine zg_Handings_values X hW h0 zu_236 dX2_valueOf_1 ?_
    refine lv_iload_n hx hb dX2_valueOf_4 rfl (lv_at hl 1 rfl) ?_
    refine lv_iconst hx hb dX2_valueOf_5 zc_i5 ?_
    refine lv_imul hx hb dX2_valueOf_6 ?_
    refine lv_iload_n hx hb dX2_valueOf_7 rfl (lv_at hl 2 rfl) ?_
    refine lv_iadd hx hb dX2_valueOf_8 ?_
    obtain ⟨g, h⟩ := h
    refine ziald X hW h0.2 g dX2_valueOf_9 ?_
    exact zreti X hr hlk hW h dX2_valueOf_10
  exact zMain s.heap [] ls hW hl
def wpJ_Handings_placesOf_92 (k : Nat) (a1 : Int32) (t2 : Nat) (a3 : Int32) (K137 : Int32 → Int32 → Int32 → Int32 → zMem → Prop) (J : Int32 → Int32 → Int32 → Int32 → Int32 → zMem → Prop) (Q : Int32 → zMem → Prop) (x_4 : Int32) (x_5 : Int32) (x_6 : Int32) (x_7 : Int32) (x_8 : Int32)  (M : zMem) : Prop :=
  (x_7 = 0 → ∀ zx8 : Int32, zx8 = x_4 + 1 → ∀ zx9 : Int32, zx9 = x_8 + 1 → J zx8 x_5 x_6 0 zx9 M) ∧ (¬ x_7 = 0 → wp_Handings_valueOf k x_8 2 M (fun zr11 zm10 => (¬ zr11 = x_5 → ∀ zx12 : Int32, zx12 = x_4 + 1 → ∀ zx13 : Int32, zx13 = x_8 + 1 → J zx12 x_5 x_6 0 zx13 zm10) ∧ (zr11 = x_5 → wp_Handings_valueOf k x_8 3 zm10 (fun zr15 zm14 => (¬ zr15 = x_6 → ∀ zx16 : Int32, zx16 = x_4 + 1 → ∀ zx17 : Int32, zx17 = x_8 + 1 → J zx16 x_5 x_6 0 zx17 zm14) ∧ (zr15 = x_6 → ∀ zx18 : Int32, zx18 = x_4 + 1 → ∀ zx19 : Int32, zx19 = x_8 + 1 → J zx18 x_5 x_6 1 zx19 zm14)))))
def wpB_Handings_placesOf_17 (k : Nat) (a1 : Int32) (t2 : Nat) (a3 : Int32)  (K137 : Int32 → Int32 → Int32 → Int32 → zMem → Prop) (Q : Int32 → zMem → Prop) (J : Int32 → Int32 → Int32 → Int32 → Int32 → zMem → Prop) (x_4 : Int32) (x_5 : Int32) (x_6 : Int32) (x_7 : Int32) (x_8 : Int32) (M : zMem) : Prop :=
  ((M k 0) ≤ x_8 → K137 x_4 x_5 x_6 x_7 M) ∧ (¬ (M k 0) ≤ x_8 → wp_Handings_valueOf k x_8 0 M (fun zr2 zm1 => wp_Handings_valueOf k x_8 1 zm1 (fun zr4 zm3 => (¬ zr4 = a1 → ∀ zx5 : Int32, zx5 = x_8 + 1 → J x_4 x_5 x_6 x_7 zx5 zm3) ∧ (zr4 = a1 → (zr2 ≤ (zm3 t2 5) → ∀ zx6 : Int32, zx6 = x_8 + 1 → J x_4 x_5 x_6 x_7 zx6 zm3) ∧ (¬ zr2 ≤ (zm3 t2 5) → (((zm3 t2 5) + (zm3 t2 4)) < zr2 → ∀ zx7 : Int32, zx7 = x_8 + 1 → J x_4 x_5 x_6 x_7 zx7 zm3) ∧ (¬ ((zm3 t2 5) + (zm3 t2 4)) < zr2 → (¬ x_4 = 0 → wpJ_Handings_placesOf_92 k a1 t2 a3 K137 J Q x_4 x_5 x_6 x_7 x_8 zm3) ∧ (x_4 = 0 → wp_Handings_valueOf k x_8 2 zm3 (fun zr21 zm20 => wp_Handings_valueOf k x_8 3 zm20 (fun zr23 zm22 => wpJ_Handings_placesOf_92 k a1 t2 a3 K137 J Q x_4 zr21 zr23 x_7 x_8 zm22)))))))))
def wp_Handings_placesOf (k : Nat) (a1 : Int32) (t2 : Nat) (a3 : Int32) (M : zMem) (Q : Int32 → zMem → Prop) : Prop :=
  ∃ n : Nat, zlp5 (wpB_Handings_placesOf_17 k a1 t2 a3  (fun (zx25 : Int32) (zx26 : Int32) (zx27 : Int32) (zx28 : Int32) (zm24 : zMem) => ∀ zx29 : Int32, zx29 = a3 → (zx29 = 0 → Q zx25 zm24) ∧ (zx29 = 1 → (zx28 = 0 → Q 0 zm24) ∧ (¬ zx28 = 0 → (zx25 ≤ 0 → Q 0 zm24) ∧ (¬ zx25 ≤ 0 → Q 1 zm24))) ∧ (zx29 = 2 → Q zx26 zm24) ∧ (¬ zx29 = 0 → ¬ zx29 = 1 → ¬ zx29 = 2 → Q zx27 zm24)) Q) n 0 ((-4)) ((-4)) 1 0 M
set_option maxHeartbeats 4000000 in
set_option maxRecDepth 20000 in
theorem c_Handings_placesOf {l : Launch} {w : zWd} {k : Nat} {a1 : Int32} {t2 : Nat} {a3 : Int32} {M : zMem} {post : Int32 → zMem → Prop} (h0 : zI_Handings w k) (h2 : zI_Ring w t2) (h : wp_Handings_placesOf k a1 t2 a3 M post) : zMi l ⟨"HandToHand$Handings", "placesOf", "(ILHandToHand$Ring;I)I"⟩ prog_4_method_4_code 10 (Option.some .int) 1 22 w [.ref (zad w k), .int a1, .ref (zad w t2), .int a3] M post := by
  refine zMet (by decide) (Nat.le_of_ble_eq_true rfl) ?_
  intro p e s m below meth c X hr hlk hml hW ls hl
  have hx := X.1
  have hb := X.2.1
  have hl : lv_has ls 10 [(0, .ref (zad w k)), (1, .int a1), (2, .ref (zad w t2)), (3, .int a3)] := hl
  have zJ_92 : ∀ (x_4 : Int32) (x_5 : Int32) (x_6 : Int32) (x_7 : Int32) (x_8 : Int32) (K137 : Int32 → Int32 → Int32 → Int32 → zMem → Prop) (zK137 : ∀ (y_4 : Int32) (y_5 : Int32) (y_6 : Int32) (y_7 : Int32) (M : zMem) (H : Heap) (locs : List Loc) (ls : Array Slot), zWo w s.heap M H locs → lv_has ls 10 [(3, .int a3), (4, .int y_4), (5, .int y_5), (6, .int y_6), (7, .int y_7)] → K137 y_4 y_5 y_6 y_7 M → W p l e (zRm 1 22) s m ([.ref (zad w k), .int a1, .ref (zad w t2), .int a3] : List Value).toArray below meth c H locs 0 0 (MQ below (va_Qi post (zB w) (zA w)) ([.ref (zad w k), .int a1, .ref (zad w t2), .int a3] : List Value).toArray s 0 0 (zA w)) (F0 m 137 ls [])) (J : Int32 → Int32 → Int32 → Int32 → Int32 → zMem → Prop) (zJ : ∀ (y_4 : Int32) (y_5 : Int32) (y_6 : Int32) (y_7 : Int32) (y_8 : Int32) (M : zMem) (H : Heap) (locs : List Loc) (ls : Array Slot), zWo w s.heap M H locs → lv_has ls 10 [(0, .ref (zad w k)), (1, .int a1), (2, .ref (zad w t2)), (3, .int a3), (4, .int y_4), (5, .int y_5), (6, .int y_6), (7, .int y_7), (8, .int y_8)] → J y_4 y_5 y_6 y_7 y_8 M → W p l e (zRm 1 22) s m ([.ref (zad w k), .int a1, .ref (zad w t2), .int a3] : List Value).toArray below meth c H locs 0 0 (MQ below (va_Qi post (zB w) (zA w)) ([.ref (zad w k), .int a1, .ref (zad w t2), .int a3] : List Value).toArray s 0 0 (zA w)) (F0 m 17 ls [])) (M : zMem) (H : Heap) (locs : List Loc) (ls : Array Slot), zWo w s.heap M H locs → lv_has ls 10 [(0, .ref (zad w k)), (1, .int a1), (2, .ref (zad w t2)), (3, .int a3), (4, .int x_4), (5, .int x_5), (6, .int x_6), (7, .int x_7), (8, .int x_8)] → wpJ_Handings_placesOf_92 k a1 t2 a3 K137 J post x_4 x_5 x_6 x_7 x_8 M → W p l e (zRm 1 22) s m ([.ref (zad w k), .int a1, .ref (zad w t2), .int a3] : List Value).toArray below meth c H locs 0 0 (MQ below (va_Qi post (zB w) (zA w)) ([.ref (zad w k), .int a1, .ref (zad w t2), .int a3] : List Value).toArray s 0 0 (zA w)) (F0 m 92 ls []) := by
    intro x_4 x_5 x_6 x_7 x_8 K137 zK137 J zJ M H locs ls hW hl h
    unfold wpJ_Handings_placesOf_92 at h
    refine lv_iload hx hb dX2_placesOf_92 (lv_at hl 7 rfl) ?_
    refine lv_if_eq (tgt := 125) hx hb dX2_placesOf_94 rfl (fun c => ?_) (fun c => ?_)
    · replace h := h.1 c
      refine lv_iconst hx hb dX2_placesOf_125 zc_i0 ?_
      refine lv_istore (lv' := [(7, .int 0), (0, .ref (zad w k)), (1, .int a1), (2, .ref (zad w t2)), (3, .int a3), (4, .int x_4), (5, .int x_5), (6, .int x_6), (8, .int x_8)]) hx hb dX2_placesOf_126 hl (Nat.le_of_ble_eq_true rfl) rfl (fun ls hl => ?_)
      obtain ⟨zx8, ezx8⟩ : ∃ y : Int32, y = x_4 + 1 := ⟨_, rfl⟩
      replace h := h zx8 ezx8
      refine lv_iinc (v := zx8) (lv' := [(4, .int zx8), (7, .int 0), (0, .ref (zad w k)), (1, .int a1), (2, .ref (zad w t2)), (3, .int a3), (5, .int x_5), (6, .int x_6), (8, .int x_8)]) hx hb dX2_placesOf_128 hl (k := 5) rfl (by rw [ezx8, zc_i1]) (Nat.le_of_ble_eq_true rfl) rfl (fun ls hl => ?_)
      obtain ⟨zx9, ezx9⟩ : ∃ y : Int32, y = x_8 + 1 := ⟨_, rfl⟩
      replace h := h zx9 ezx9
      refine lv_iinc (v := zx9) (lv' := [(8, .int zx9), (4, .int zx8), (7, .int 0), (0, .ref (zad w k)), (1, .int a1), (2, .ref (zad w t2)), (3, .int a3), (5, .int x_5), (6, .int x_6)]) hx hb dX2_placesOf_131 hl (k := 8) rfl (by rw [ezx9, zc_i1]) (Nat.le_of_ble_eq_true rfl) rfl (fun ls hl => ?_)
      refine lv_goto (tgt := 17) hx hb dX2_placesOf_134 rfl ?_
      exact zJ zx8 x_5 x_6 0 zx9 M H locs ls hW (lv_sub hl [3, 4, 5, 6, 1, 7, 8, 2, 0] rfl) h
    · replace h := h.2 c
      refine lv_aload_n hx hb dX2_placesOf_97 rfl (lv_at hl 0 rfl) ?_
      refine lv_iload hx hb dX2_placesOf_98 (lv_at hl 8 rfl) ?_
      refine lv_iconst hx hb dX2_placesOf_100 zc_i2 ?_
      refine zcalli (zrunV (As := [.int x_8, .int 2]) (rest := []) X hml hl hW h0.1 rfl zk_Handings_19 (c_Handings_valueOf h0 h) rfl ⟨Nat.le_of_ble_eq_true rfl, Nat.le_of_ble_eq_true rfl⟩ ⟨Nat.le_refl 0, Nat.le_refl 0⟩ rfl (Nat.le_of_ble_eq_true rfl) dX2_placesOf_101) hW (fun zr11 zm10 H locs h hW => ?_)
      refine lv_iload hx hb dX2_placesOf_104 (lv_at hl 5 rfl) ?_
      refine lv_icmp_ne (tgt := 125) hx hb dX2_placesOf_106 rfl (fun c => ?_) (fun c => ?_)
      · replace h := h.1 c
        refine lv_iconst hx hb dX2_placesOf_125 zc_i0 ?_
        refine lv_istore (lv' := [(7, .int 0), (0, .ref (zad w k)), (1, .int a1), (2, .ref (zad w t2)), (3, .int a3), (4, .int x_4), (5, .int x_5), (6, .int x_6), (8, .int x_8)]) hx hb dX2_placesOf_126 hl (Nat.le_of_ble_eq_true rfl) rfl (fun ls hl => ?_)
        obtain ⟨zx12, ezx12⟩ : ∃ y : Int32, y = x_4 + 1 := ⟨_, rfl⟩
        replace h := h zx12 ezx12
        refine lv_iinc (v := zx12) (lv' := [(4, .int zx12), (7, .int 0), (0, .ref (zad w k)), (1, .int a1), (2, .ref (zad w t2)), (3, .int a3), (5, .int x_5), (6, .int x_6), (8, .int x_8)]) hx hb dX2_placesOf_128 hl (k := 5) rfl (by rw [ezx12, zc_i1]) (Nat.le_of_ble_eq_true rfl) rfl (fun ls hl => ?_)
        obtain ⟨zx13, ezx13⟩ : ∃ y : Int32, y = x_8 + 1 := ⟨_, rfl⟩
        replace h := h zx13 ezx13
        refine lv_iinc (v := zx13) (lv' := [(8, .int zx13), (4, .int zx12), (7, .int 0), (0, .ref (zad w k)), (1, .int a1), (2, .ref (zad w t2)), (3, .int a3), (5, .int x_5), (6, .int x_6)]) hx hb dX2_placesOf_131 hl (k := 8) rfl (by rw [ezx13, zc_i1]) (Nat.le_of_ble_eq_true rfl) rfl (fun ls hl => ?_)
        refine lv_goto (tgt := 17) hx hb dX2_placesOf_134 rfl ?_
        exact zJ zx12 x_5 x_6 0 zx13 zm10 H locs ls hW (lv_sub hl [3, 4, 5, 6, 1, 7, 8, 2, 0] rfl) h
      · replace h := h.2 c
        refine lv_aload_n hx hb dX2_placesOf_109 rfl (lv_at hl 0 rfl) ?_
        refine lv_iload hx hb dX2_placesOf_110 (lv_at hl 8 rfl) ?_
        refine lv_iconst hx hb dX2_placesOf_112 zc_i3 ?_
        refine zcalli (zrunV (As := [.int x_8, .int 3]) (rest := []) X hml hl hW h0.1 rfl zk_Handings_19 (c_Handings_valueOf h0 h) rfl ⟨Nat.le_of_ble_eq_true rfl, Nat.le_of_ble_eq_true rfl⟩ ⟨Nat.le_refl 0, Nat.le_refl 0⟩ rfl (Nat.le_of_ble_eq_true rfl) dX2_placesOf_113) hW (fun zr15 zm14 H locs h hW => ?_)
        refine lv_iload hx hb dX2_placesOf_116 (lv_at hl 6 rfl) ?_
        refine lv_icmp_ne (tgt := 125) hx hb dX2_placesOf_118 rfl (fun c => ?_) (fun c => ?_)
        · replace h := h.1 c
          refine lv_iconst hx hb dX2_placesOf_125 zc_i0 ?_
          refine lv_istore (lv' := [(7, .int 0), (0, .ref (zad w k)), (1, .int a1), (2, .ref (zad w t2)), (3, .int a3), (4, .int x_4), (5, .int x_5), (6, .int x_6), (8, .int x_8)]) hx hb dX2_placesOf_126 hl (Nat.le_of_ble_eq_true rfl) rfl (fun ls hl => ?_)
          obtain ⟨zx16, ezx16⟩ : ∃ y : Int32, y = x_4 + 1 := ⟨_, rfl⟩
          replace h := h zx16 ezx16
          refine lv_iinc (v := zx16) (lv' := [(4, .int zx16), (7, .int 0), (0, .ref (zad w k)), (1, .int a1), (2, .ref (zad w t2)), (3, .int a3), (5, .int x_5), (6, .int x_6), (8, .int x_8)]) hx hb dX2_placesOf_128 hl (k := 5) rfl (by rw [ezx16, zc_i1]) (Nat.le_of_ble_eq_true rfl) rfl (fun ls hl => ?_)
          obtain ⟨zx17, ezx17⟩ : ∃ y : Int32, y = x_8 + 1 := ⟨_, rfl⟩
          replace h := h zx17 ezx17
          refine lv_iinc (v := zx17) (lv' := [(8, .int zx17), (4, .int zx16), (7, .int 0), (0, .ref (zad w k)), (1, .int a1), (2, .ref (zad w t2)), (3, .int a3), (5, .int x_5), (6, .int x_6)]) hx hb dX2_placesOf_131 hl (k := 8) rfl (by rw [ezx17, zc_i1]) (Nat.le_of_ble_eq_true rfl) rfl (fun ls hl => ?_)
          refine lv_goto (tgt := 17) hx hb dX2_placesOf_134 rfl ?_
          exact zJ zx16 x_5 x_6 0 zx17 zm14 H locs ls hW (lv_sub hl [3, 4, 5, 6, 1, 7, 8, 2, 0] rfl) h
        · replace h := h.2 c
          refine lv_iconst hx hb dX2_placesOf_121 zc_i1 ?_
          refine lv_goto (tgt := 126) hx hb dX2_placesOf_122 rfl ?_
          refine lv_istore (lv' := [(7, .int 1), (0, .ref (zad w k)), (1, .int a1), (2, .ref (zad w t2)), (3, .int a3), (4, .int x_4), (5, .int x_5), (6, .int x_6), (8, .int x_8)]) hx hb dX2_placesOf_126 hl (Nat.le_of_ble_eq_true rfl) rfl (fun ls hl => ?_)
          obtain ⟨zx18, ezx18⟩ : ∃ y : Int32, y = x_4 + 1 := ⟨_, rfl⟩
          replace h := h zx18 ezx18
          refine lv_iinc (v := zx18) (lv' := [(4, .int zx18), (7, .int 1), (0, .ref (zad w k)), (1, .int a1), (2, .ref (zad w t2)), (3, .int a3), (5, .int x_5), (6, .int x_6), (8, .int x_8)]) hx hb dX2_placesOf_128 hl (k := 5) rfl (by rw [ezx18, zc_i1]) (Nat.le_of_ble_eq_true rfl) rfl (fun ls hl => ?_)
          obtain ⟨zx19, ezx19⟩ : ∃ y : Int32, y = x_8 + 1 := ⟨_, rfl⟩
          replace h := h zx19 ezx19
          refine lv_iinc (v := zx19) (lv' := [(8, .int zx19), (4, .int zx18), (7, .int 1), (0, .ref (zad w k)), (1, .int a1), (2, .ref (zad w t2)), (3, .int a3), (5, .int x_5), (6, .int x_6)]) hx hb dX2_placesOf_131 hl (k := 8) rfl (by rw [ezx19, zc_i1]) (Nat.le_of_ble_eq_true rfl) rfl (fun ls hl => ?_)
          refine lv_goto (tgt := 17) hx hb dX2_placesOf_134 rfl ?_
          exact zJ zx18 x_5 x_6 1 zx19 zm14 H locs ls hW (lv_sub hl [3, 4, 5, 6, 1, 7, 8, 2, 0] rfl) h
  have zL_17 : ∀ (K137 : Int32 → Int32 → Int32 → Int32 → zMem → Prop) (zK137 : ∀ (y_4 : Int32) (y_5 : Int32) (y_6 : Int32) (y_7 : Int32) (M : zMem) (H : Heap) (locs : List Loc) (ls : Array Slot), zWo w s.heap M H locs → lv_has ls 10 [(3, .int a3), (4, .int y_4), (5, .int y_5), (6, .int y_6), (7, .int y_7)] → K137 y_4 y_5 y_6 y_7 M → W p l e (zRm 1 22) s m ([.ref (zad w k), .int a1, .ref (zad w t2), .int a3] : List Value).toArray below meth c H locs 0 0 (MQ below (va_Qi post (zB w) (zA w)) ([.ref (zad w k), .int a1, .ref (zad w t2), .int a3] : List Value).toArray s 0 0 (zA w)) (F0 m 137 ls [])), ∀ (n : Nat) (x_4 : Int32) (x_5 : Int32) (x_6 : Int32) (x_7 : Int32) (x_8 : Int32) (M : zMem) (H : Heap) (locs : List Loc) (ls : Array Slot), zWo w s.heap M H locs → lv_has ls 10 [(0, .ref (zad w k)), (1, .int a1), (2, .ref (zad w t2)), (3, .int a3), (4, .int x_4), (5, .int x_5), (6, .int x_6), (7, .int x_7), (8, .int x_8)] → zlp5 (wpB_Handings_placesOf_17 k a1 t2 a3  K137 post) n x_4 x_5 x_6 x_7 x_8 M → W p l e (zRm 1 22) s m ([.ref (zad w k), .int a1, .ref (zad w t2), .int a3] : List Value).toArray below meth c H locs 0 0 (MQ below (va_Qi post (zB w) (zA w)) ([.ref (zad w k), .int a1, .ref (zad w t2), .int a3] : List Value).toArray s 0 0 (zA w)) (F0 m 17 ls []) := by
    intro K137 zK137 n
    induction n with
    | zero => intro x_4 x_5 x_6 x_7 x_8 M H locs ls hW hl h; exact h.elim
    | succ n zJ =>
      intro x_4 x_5 x_6 x_7 x_8 M H locs ls hW hl h
      have h : wpB_Handings_placesOf_17 k a1 t2 a3  K137 post (zlp5 (wpB_Handings_placesOf_17 k a1 t2 a3  K137 post) n) x_4 x_5 x_6 x_7 x_8 M := h
      unfold wpB_Handings_placesOf_17 at h
      refine lv_iload hx hb dX2_placesOf_17 (lv_at hl 8 rfl) ?_
      refine lv_aload_n hx hb dX2_placesOf_19 rfl (lv_at hl 0 rfl) ?_
      refine zg_Handings_size X hW h0 zu_233 dX2_placesOf_20 ?_
      refine lv_icmp_ge (tgt := 137) hx hb dX2_placesOf_23 rfl (fun c => ?_) (fun c => ?_)
      · replace h := h.1 c
        exact zK137 x_4 x_5 x_6 x_7 M H locs ls hW (lv_sub hl [3, 4, 5, 6, 7] rfl) h
      · replace h := h.2 c
        refine lv_aload_n hx hb dX2_placesOf_26 rfl (lv_at hl 0 rfl) ?_
        refine lv_iload hx hb dX2_placesOf_27 (lv_at hl 8 rfl) ?_
        refine lv_iconst hx hb dX2_placesOf_29 zc_i0 ?_
        refine zcalli (zrunV (As := [.int x_8, .int 0]) (rest := []) X hml hl hW h0.1 rfl zk_Handings_19 (c_Handings_valueOf h0 h) rfl ⟨Nat.le_of_ble_eq_true rfl, Nat.le_of_ble_eq_true rfl⟩ ⟨Nat.le_refl 0, Nat.le_refl 0⟩ rfl (Nat.le_of_ble_eq_true rfl) dX2_placesOf_30) hW (fun zr2 zm1 H locs h hW => ?_)
        refine lv_istore (lv' := [(9, .int zr2), (0, .ref (zad w k)), (1, .int a1), (2, .ref (zad w t2)), (3, .int a3), (4, .int x_4), (5, .int x_5), (6, .int x_6), (7, .int x_7), (8, .int x_8)]) hx hb dX2_placesOf_33 hl (Nat.le_of_ble_eq_true rfl) rfl (fun ls hl => ?_)
        refine lv_aload_n hx hb dX2_placesOf_35 rfl (lv_at hl 1 rfl) ?_
        refine lv_iload hx hb dX2_placesOf_36 (lv_at hl 9 rfl) ?_
        refine lv_iconst hx hb dX2_placesOf_38 zc_i1 ?_
        refine zcalli (zrunV (As := [.int x_8, .int 1]) (rest := []) X hml hl hW h0.1 rfl zk_Handings_19 (c_Handings_valueOf h0 h) rfl ⟨Nat.le_of_ble_eq_true rfl, Nat.le_of_ble_eq_true rfl⟩ ⟨Nat.le_refl 0, Nat.le_refl 0⟩ rfl (Nat.le_of_ble_eq_true rfl) dX2_placesOf_39) hW (fun zr4 zm3 H locs h hW => ?_)
        refine lv_iload_n hx hb dX2_placesOf_42 rfl (lv_at hl 2 rfl) ?_
        refine lv_icmp_ne (tgt := 131) hx hb dX2_placesOf_43 rfl (fun c => ?_) (fun c => ?_)
        · replace h := h.1 c
          obtain ⟨zx5, ezx5⟩ : ∃ y : Int32, y = x_8 + 1 := ⟨_, rfl⟩
          replace h := h zx5 ezx5
          refine lv_iinc (v := zx5) (lv' := [(8, .int zx5), (9, .int zr2), (0, .ref (zad w k)), (1, .int a1), (2, .ref (zad w t2)), (3, .int a3), (4, .int x_4), (5, .int x_5), (6, .int x_6), (7, .int x_7)]) hx hb dX2_placesOf_131 hl (k := 9) rfl (by rw [ezx5, zc_i1]) (Nat.le_of_ble_eq_true rfl) rfl (fun ls hl => ?_)
          refine lv_goto (tgt := 17) hx hb dX2_placesOf_134 rfl ?_
          exact zJ x_4 x_5 x_6 x_7 zx5 zm3 H locs ls hW (lv_sub hl [2, 3, 4, 5, 6, 7, 8, 9, 0] rfl) h
        · replace h := h.2 c
          refine lv_iload hx hb dX2_placesOf_46 (lv_at hl 0 rfl) ?_
          refine lv_aload_n hx hb dX2_placesOf_48 rfl (lv_at hl 3 rfl) ?_
          refine zg_Ring_from X hW h2 zu_305 dX2_placesOf_49 ?_
          refine lv_icmp_le (tgt := 131) hx hb dX2_placesOf_52 rfl (fun c => ?_) (fun c => ?_)
          · replace h := h.1 c
            obtain ⟨zx6, ezx6⟩ : ∃ y : Int32, y = x_8 + 1 := ⟨_, rfl⟩
            replace h := h zx6 ezx6
            refine lv_iinc (v := zx6) (lv' := [(8, .int zx6), (9, .int zr2), (0, .ref (zad w k)), (1, .int a1), (2, .ref (zad w t2)), (3, .int a3), (4, .int x_4), (5, .int x_5), (6, .int x_6), (7, .int x_7)]) hx hb dX2_placesOf_131 hl (k := 9) rfl (by rw [ezx6, zc_i1]) (Nat.le_of_ble_eq_true rfl) rfl (fun ls hl => ?_)
            refine lv_goto (tgt := 17) hx hb dX2_placesOf_134 rfl ?_
            exact zJ x_4 x_5 x_6 x_7 zx6 zm3 H locs ls hW (lv_sub hl [2, 3, 4, 5, 6, 7, 8, 9, 0] rfl) h
          · replace h := h.2 c
            refine lv_iload hx hb dX2_placesOf_55 (lv_at hl 0 rfl) ?_
            refine lv_aload_n hx hb dX2_placesOf_57 rfl (lv_at hl 3 rfl) ?_
            refine zg_Ring_from X hW h2 zu_305 dX2_placesOf_58 ?_
            refine lv_aload_n hx hb dX2_placesOf_61 rfl (lv_at hl 3 rfl) ?_
            refine zg_Ring_ticks X hW h2 zu_302 dX2_placesOf_62 ?_
            refine lv_iadd hx hb dX2_placesOf_65 ?_
            refine lv_icmp_gt (tgt := 131) hx hb dX2_placesOf_66 rfl (fun c => ?_) (fun c => ?_)
            · replace h := h.1 c
              obtain ⟨zx7, ezx7⟩ : ∃ y : Int32, y = x_8 + 1 := ⟨_, rfl⟩
              replace h := h zx7 ezx7
              refine lv_iinc (v := zx7) (lv' := [(8, .int zx7), (9, .int zr2), (0, .ref (zad w k)), (1, .int a1), (2, .ref (zad w t2)), (3, .int a3), (4, .int x_4), (5, .int x_5), (6, .int x_6), (7, .int x_7)]) hx hb dX2_placesOf_131 hl (k := 9) rfl (by rw [ezx7, zc_i1]) (Nat.le_of_ble_eq_true rfl) rfl (fun ls hl => ?_)
              refine lv_goto (tgt := 17) hx hb dX2_placesOf_134 rfl ?_
              exact zJ x_4 x_5 x_6 x_7 zx7 zm3 H locs ls hW (lv_sub hl [2, 3, 4, 5, 6, 7, 8, 9, 0] rfl) h
            · replace h := h.2 c
              refine lv_iload hx hb dX2_placesOf_69 (lv_at hl 5 rfl) ?_
              refine lv_if_ne (tgt := 92) hx hb dX2_placesOf_71 rfl (fun c => ?_) (fun c => ?_)
              · replace h := h.1 c
                exact zJ_92 x_4 x_5 x_6 x_7 x_8 _ zK137 _ zJ zm3 H locs ls hW (lv_sub hl [1, 2, 3, 4, 5, 6, 7, 8, 9] rfl) h
              · replace h := h.2 c
                refine lv_aload_n hx hb dX2_placesOf_74 rfl (lv_at hl 1 rfl) ?_
                refine lv_iload hx hb dX2_placesOf_75 (lv_at hl 9 rfl) ?_
                refine lv_iconst hx hb dX2_placesOf_77 zc_i2 ?_
                refine zcalli (zrunV (As := [.int x_8, .int 2]) (rest := []) X hml hl hW h0.1 rfl zk_Handings_19 (c_Handings_valueOf h0 h) rfl ⟨Nat.le_of_ble_eq_true rfl, Nat.le_of_ble_eq_true rfl⟩ ⟨Nat.le_refl 0, Nat.le_refl 0⟩ rfl (Nat.le_of_ble_eq_true rfl) dX2_placesOf_78) hW (fun zr21 zm20 H locs h hW => ?_)
                refine lv_istore (lv' := [(5, .int zr21), (9, .int zr2), (0, .ref (zad w k)), (1, .int a1), (2, .ref (zad w t2)), (3, .int a3), (4, .int x_4), (6, .int x_6), (7, .int x_7), (8, .int x_8)]) hx hb dX2_placesOf_81 hl (Nat.le_of_ble_eq_true rfl) rfl (fun ls hl => ?_)
                refine lv_aload_n hx hb dX2_placesOf_83 rfl (lv_at hl 2 rfl) ?_
                refine lv_iload hx hb dX2_placesOf_84 (lv_at hl 9 rfl) ?_
                refine lv_iconst hx hb dX2_placesOf_86 zc_i3 ?_
                refine zcalli (zrunV (As := [.int x_8, .int 3]) (rest := []) X hml hl hW h0.1 rfl zk_Handings_19 (c_Handings_valueOf h0 h) rfl ⟨Nat.le_of_ble_eq_true rfl, Nat.le_of_ble_eq_true rfl⟩ ⟨Nat.le_refl 0, Nat.le_refl 0⟩ rfl (Nat.le_of_ble_eq_true rfl) dX2_placesOf_87) hW (fun zr23 zm22 H locs h hW => ?_)
                refine lv_istore (lv' := [(6, .int zr23), (5, .int zr21), (9, .int zr2), (0, .ref (zad w k)), (1, .int a1), (2, .ref (zad w t2)), (3, .int a3), (4, .int x_4), (7, .int x_7), (8, .int x_8)]) hx hb dX2_placesOf_90 hl (Nat.le_of_ble_eq_true rfl) rfl (fun ls hl => ?_)
                exact zJ_92 x_4 zr21 zr23 x_7 x_8 _ zK137 _ zJ zm22 H locs ls hW (lv_sub hl [3, 4, 5, 6, 7, 1, 0, 8, 9] rfl) h
  unfold wp_Handings_placesOf at h
  have zMain : ∀ (H : Heap) (locs : List Loc) (ls : Array Slot), zWo w s.heap M H locs → lv_has ls 10 [(0, .ref (zad w k)), (1, .int a1), (2, .ref (zad w t2)), (3, .int a3)] → W p l e (zRm 1 22) s m ([.ref (zad w k), .int a1, .ref (zad w t2), .int a3] : List Value).toArray below meth c H locs 0 0 (MQ below (va_Qi post (zB w) (zA w)) ([.ref (zad w k), .int a1, .ref (zad w t2), .int a3] : List Value).toArray s 0 0 (zA w)) (F0 m 0 ls []) := by
    intro H locs ls hW hl
    refine lv_iconst hx hb dX2_placesOf_0 zc_i0 ?_
    refine lv_istore (lv' := [(4, .int 0), (0, .ref (zad w k)), (1, .int a1), (2, .ref (zad w t2)), (3, .int a3)]) hx hb dX2_placesOf_1 hl (Nat.le_of_ble_eq_true rfl) rfl (fun ls hl => ?_)
    refine lv_bipush hx hb dX2_placesOf_3 zc_bm4 ?_
    refine lv_istore (lv' := [(5, .int ((-4))), (4, .int 0), (0, .ref (zad w k)), (1, .int a1), (2, .ref (zad w t2)), (3, .int a3)]) hx hb dX2_placesOf_5 hl (Nat.le_of_ble_eq_true rfl) rfl (fun ls hl => ?_)
    refine lv_bipush hx hb dX2_placesOf_7 zc_bm4 ?_
    refine lv_istore (lv' := [(6, .int ((-4))), (5, .int ((-4))), (4, .int 0), (0, .ref (zad w k)), (1, .int a1), (2, .ref (zad w t2)), (3, .int a3)]) hx hb dX2_placesOf_9 hl (Nat.le_of_ble_eq_true rfl) rfl (fun ls hl => ?_)
    refine lv_iconst hx hb dX2_placesOf_11 zc_i1 ?_
    refine lv_istore (lv' := [(7, .int 1), (6, .int ((-4))), (5, .int ((-4))), (4, .int 0), (0, .ref (zad w k)), (1, .int a1), (2, .ref (zad w t2)), (3, .int a3)]) hx hb dX2_placesOf_12 hl (Nat.le_of_ble_eq_true rfl) rfl (fun ls hl => ?_)
    refine lv_iconst hx hb dX2_placesOf_14 zc_i0 ?_
    refine lv_istore (lv' := [(8, .int 0), (7, .int 1), (6, .int ((-4))), (5, .int ((-4))), (4, .int 0), (0, .ref (zad w k)), (1, .int a1), (2, .ref (zad w t2)), (3, .int a3)]) hx hb dX2_placesOf_15 hl (Nat.le_of_ble_eq_true rfl) rfl (fun ls hl => ?_)
    obtain ⟨n, h⟩ := h
    refine zL_17  _ (fun zx25 zx26 zx27 zx28 zm24 H locs ls hW hl h => ?_) n 0 ((-4)) ((-4)) 1 0 M H locs ls hW (lv_sub hl [5, 6, 7, 8, 4, 3, 2, 1, 0] rfl) h
    · skip
      refine lv_iload_n hx hb dX2_placesOf_137 rfl (lv_at hl 0 rfl) ?_
      refine lv_topi (fun zx29 ezx29 => ?_)
      replace h := h zx29 ezx29
      by_cases c0 : zx29 = 0
      · replace h := h.1 c0
        refine lv_tableIn (off := 26) (tgt := 164) hx hb dX2_placesOf_138 (by rw [c0]; decide) (by rw [c0]; decide) (by rw [c0]; rfl) rfl ?_
        refine lv_iload hx hb dX2_placesOf_164 (lv_at hl 1 rfl) ?_
        exact zreti X hr hlk hW h dX2_placesOf_166
      replace h := h.2
      by_cases c1 : zx29 = 1
      · replace h := h.1 c1
        refine lv_tableIn (off := 29) (tgt := 167) hx hb dX2_placesOf_138 (by rw [c1]; decide) (by rw [c1]; decide) (by rw [c1]; rfl) rfl ?_
        refine lv_iload hx hb dX2_placesOf_167 (lv_at hl 4 rfl) ?_
        refine lv_if_eq (tgt := 181) hx hb dX2_placesOf_169 rfl (fun c => ?_) (fun c => ?_)
        · replace h := h.1 c
          refine lv_iconst hx hb dX2_placesOf_181 zc_i0 ?_
          exact zreti X hr hlk hW h dX2_placesOf_182
        · replace h := h.2 c
          refine lv_iload hx hb dX2_placesOf_172 (lv_at hl 1 rfl) ?_
          refine lv_if_le (tgt := 181) hx hb dX2_placesOf_174 rfl (fun c => ?_) (fun c => ?_)
          · replace h := h.1 c
            refine lv_iconst hx hb dX2_placesOf_181 zc_i0 ?_
            exact zreti X hr hlk hW h dX2_placesOf_182
          · replace h := h.2 c
            refine lv_iconst hx hb dX2_placesOf_177 zc_i1 ?_
            refine lv_goto (tgt := 182) hx hb dX2_placesOf_178 rfl ?_
            exact zreti X hr hlk hW h dX2_placesOf_182
      replace h := h.2
      by_cases c2 : zx29 = 2
      · replace h := h.1 c2
        refine lv_tableIn (off := 45) (tgt := 183) hx hb dX2_placesOf_138 (by rw [c2]; decide) (by rw [c2]; decide) (by rw [c2]; rfl) rfl ?_
        refine lv_iload hx hb dX2_placesOf_183 (lv_at hl 2 rfl) ?_
        exact zreti X hr hlk hW h dX2_placesOf_185
      replace h := h.2
      replace h := h c0 c1 c2
      refine lv_tableOut (tgt := 186) hx hb dX2_placesOf_138 (zsw 2 (Nat.le_of_ble_eq_true rfl) (fun j hj => ?_)) rfl ?_
      · rcases (show j = 0 ∨ j = 1 ∨ j = 2 by omega) with rfl | rfl | rfl
        · exact c0
        · exact c1
        · exact c2
      refine lv_iload hx hb dX2_placesOf_186 (lv_at hl 3 rfl) ?_
      exact zreti X hr hlk hW h dX2_placesOf_188
  exact zMain s.heap [] ls hW hl
def wpB_Bench_makeReady_7 (k : Nat)   (Q : zMem → Prop) (J : Int32 → zMem → Prop) (x_1 : Int32) (M : zMem) : Prop :=
  (5 ≤ x_1 → Q M) ∧ (¬ 5 ≤ x_1 → vp_in x_1 5 ∧ ∀ zm2 : zMem, zm2 = zup M (k + 1) (ix x_1) 0 → vp_in x_1 5 ∧ ∀ zm3 : zMem, zm3 = zup zm2 (k + 2) (ix x_1) 0 → vp_in x_1 5 ∧ ∀ zm4 : zMem, zm4 = zup zm3 (k + 3) (ix x_1) ((-1)) → ∀ zx5 : Int32, zx5 = x_1 + 1 → J zx5 zm4)
def wp_Bench_makeReady (k : Nat) (M : zMem) (Q : zMem → Prop) : Prop :=
  ∀ zm1 : zMem, zm1 = zup M k 5 0 → ∃ n : Nat, zlp1 (wpB_Bench_makeReady_7 k   Q) n 0 zm1
set_option maxHeartbeats 4000000 in
set_option maxRecDepth 20000 in
theorem c_Bench_makeReady {l : Launch} {w : zWd} {k : Nat} {M : zMem} {post : zMem → Prop} (h0 : zI_Bench w k) (h : wp_Bench_makeReady k M post) : zMv l ⟨"HandToHand$Bench", "makeReady", "()V"⟩ prog_2_method_3_code 2 none 0 0 w [.ref (zad w k)] M post := by
  refine zMet (by decide) (Nat.le_of_ble_eq_true rfl) ?_
  intro p e s m below meth c X hr hlk hml hW ls hl
  have hx := X.1
  have hb := X.2.1
  have hl : lv_has ls 2 [(0, .ref (zad w k))] := hl
  have zL_7 :  ∀ (n : Nat) (x_1 : Int32) (M : zMem) (H : Heap) (locs : List Loc) (ls : Array Slot), zWo w s.heap M H locs → lv_has ls 2 [(0, .ref (zad w k)), (1, .int x_1)] → zlp1 (wpB_Bench_makeReady_7 k   post) n x_1 M → W p l e (zRm 0 0) s m ([.ref (zad w k)] : List Value).toArray below meth c H locs 0 0 (MQ below (va_Qv post (zB w) (zA w)) ([.ref (zad w k)] : List Value).toArray s 0 0 (zA w)) (F0 m 7 ls []) := by
    intro n
    induction n with
    | zero => intro x_1 M H locs ls hW hl h; exact h.elim
    | succ n zJ =>
      intro x_1 M H locs ls hW hl h
      have h : wpB_Bench_makeReady_7 k   post (zlp1 (wpB_Bench_makeReady_7 k   post) n) x_1 M := h
      unfold wpB_Bench_makeReady_7 at h
      refine lv_iload_n hx hb dX0_makeReady_7 rfl (lv_at hl 1 rfl) ?_
      refine lv_iconst hx hb dX0_makeReady_8 zc_i5 ?_
      refine lv_icmp_ge (tgt := 39) hx hb dX0_makeReady_9 rfl (fun c => ?_) (fun c => ?_)
      · replace h := h.1 c
        exact zretv X hr hlk hW h dX0_makeReady_39
      · replace h := h.2 c
        refine lv_aload_n hx hb dX0_makeReady_12 rfl (lv_at hl 0 rfl) ?_
        refine zg_Bench_doing X hW h0 zu_175 dX0_makeReady_13 ?_
        refine lv_iload_n hx hb dX0_makeReady_16 rfl (lv_at hl 1 rfl) ?_
        refine lv_iconst hx hb dX0_makeReady_17 zc_i0 ?_
        obtain ⟨g, h⟩ := h
        refine ziast X hW h0.2.1 g dX0_makeReady_18 (fun H locs zm2 ezm2 hW => ?_)
        replace h := h zm2 ezm2
        refine lv_aload_n hx hb dX0_makeReady_19 rfl (lv_at hl 0 rfl) ?_
        refine zg_Bench_left X hW h0 zu_177 dX0_makeReady_20 ?_
        refine lv_iload_n hx hb dX0_makeReady_23 rfl (lv_at hl 1 rfl) ?_
        refine lv_iconst hx hb dX0_makeReady_24 zc_i0 ?_
        obtain ⟨g, h⟩ := h
        refine ziast X hW h0.2.2.1 g dX0_makeReady_25 (fun H locs zm3 ezm3 hW => ?_)
        replace h := h zm3 ezm3
        refine lv_aload_n hx hb dX0_makeReady_26 rfl (lv_at hl 0 rfl) ?_
        refine zg_Bench_piece X hW h0 zu_179 dX0_makeReady_27 ?_
        refine lv_iload_n hx hb dX0_makeReady_30 rfl (lv_at hl 1 rfl) ?_
        refine lv_iconst hx hb dX0_makeReady_31 zc_im1 ?_
        obtain ⟨g, h⟩ := h
        refine ziast X hW h0.2.2.2.1 g dX0_makeReady_32 (fun H locs zm4 ezm4 hW => ?_)
        replace h := h zm4 ezm4
        obtain ⟨zx5, ezx5⟩ : ∃ y : Int32, y = x_1 + 1 := ⟨_, rfl⟩
        replace h := h zx5 ezx5
        refine lv_iinc (v := zx5) (lv' := [(1, .int zx5), (0, .ref (zad w k))]) hx hb dX0_makeReady_33 hl (k := 1) rfl (by rw [ezx5, zc_i1]) (Nat.le_of_ble_eq_true rfl) rfl (fun ls hl => ?_)
        refine lv_goto (tgt := 7) hx hb dX0_makeReady_36 rfl ?_
        exact zJ zx5 zm4 H locs ls hW (lv_sub hl [1, 0] rfl) h
  unfold wp_Bench_makeReady at h
  have zMain : ∀ (H : Heap) (locs : List Loc) (ls : Array Slot), zWo w s.heap M H locs → lv_has ls 2 [(0, .ref (zad w k))] → W p l e (zRm 0 0) s m ([.ref (zad w k)] : List Value).toArray below meth c H locs 0 0 (MQ below (va_Qv post (zB w) (zA w)) ([.ref (zad w k)] : List Value).toArray s 0 0 (zA w)) (F0 m 0 ls []) := by
    intro H locs ls hW hl
    refine lv_aload_n hx hb dX0_makeReady_0 rfl (lv_at hl 0 rfl) ?_
    refine lv_iconst hx hb dX0_makeReady_1 zc_i0 ?_
    refine zp_Bench_place X hW h0 zu_172 dX0_makeReady_2 (fun H locs zm1 ezm1 hW => ?_)
    replace h := h zm1 ezm1
    refine lv_iconst hx hb dX0_makeReady_5 zc_i0 ?_
    refine lv_istore_n (lv' := [(1, .int 0), (0, .ref (zad w k))]) hx hb dX0_makeReady_6 rfl hl (Nat.le_of_ble_eq_true rfl) rfl (fun ls hl => ?_)
    obtain ⟨n, h⟩ := h
    refine zL_7   n 0 zm1 H locs ls hW (lv_sub hl [1, 0] rfl) h
  exact zMain s.heap [] ls hW hl
