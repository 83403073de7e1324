def wpB_Sheet_makeNew_12 (k : Nat) (a1 : Int32) (a2 : Int32)   (Q : zMem → Prop) (J : Int32 → zMem → Prop) (x_3 : Int32) (M : zMem) : Prop :=
  (40 ≤ x_3 → Q M) ∧ (¬ 40 ≤ x_3 → vp_in x_3 40 ∧ ∀ zm3 : zMem, zm3 = zup M (k + 1) (ix x_3) 0 → ∀ zx4 : Int32, zx4 = x_3 + 1 → J zx4 zm3)
def wp_Sheet_makeNew (k : Nat) (a1 : Int32) (a2 : Int32) (M : zMem) (Q : zMem → Prop) : Prop :=
  ∀ zm1 : zMem, zm1 = zup M k 0 a1 → ∀ zm2 : zMem, zm2 = zup zm1 k 1 a2 → ∃ n : Nat, zlp1 (wpB_Sheet_makeNew_12 k a1 a2   Q) n 0 zm2
set_option maxHeartbeats 4000000 in
set_option maxRecDepth 20000 in
theorem c_Sheet_makeNew {l : Launch} {w : zWd} {k : Nat} {a1 : Int32} {a2 : Int32} {M : zMem} {post : zMem → Prop} (h0 : zI_Sheet w k) (h : wp_Sheet_makeNew k a1 a2 M post) : zMv l ⟨"HandToHand$Sheet", "makeNew", "(II)V"⟩ prog_10_method_2_code 4 none 0 0 w [.ref (zad w k), .int a1, .int a2] M post := by
  refine zMet (by decide) (Nat.le_of_ble_eq_true rfl) ?_
  intro p e s m below meth c X hr hlk hml hW ls hl
  have hx := X.1
  have hb := X.2.1
  have hl : lv_has ls 4 [(0, .ref (zad w k)), (1, .int a1), (2, .int a2)] := hl
  have zL_12 :  ∀ (n : Nat) (x_3 : Int32) (M : zMem) (H : Heap) (locs : List Loc) (ls : Array Slot), zWo w s.heap M H locs → lv_has ls 4 [(0, .ref (zad w k)), (3, .int x_3)] → zlp1 (wpB_Sheet_makeNew_12 k a1 a2   post) n x_3 M → W p l e (zRm 0 0) s m ([.ref (zad w k), .int a1, .int a2] : List Value).toArray below meth c H locs 0 0 (MQ below (va_Qv post (zB w) (zA w)) ([.ref (zad w k), .int a1, .int a2] : List Value).toArray s 0 0 (zA w)) (F0 m 12 ls []) := by
    intro n
    induction n with
    | zero => intro x_3 M H locs ls hW hl h; exact h.elim
    | succ n zJ =>
      intro x_3 M H locs ls hW hl h
      have h : wpB_Sheet_makeNew_12 k a1 a2   post (zlp1 (wpB_Sheet_makeNew_12 k a1 a2   post) n) x_3 M := h
      unfold wpB_Sheet_makeNew_12 at h
      refine lv_iload_n hx hb dX8_makeNew_12 rfl (lv_at hl 1 rfl) ?_
      refine lv_bipush hx hb dX8_makeNew_13 zc_b40 ?_
      refine lv_icmp_ge (tgt := 31) hx hb dX8_makeNew_15 rfl (fun c => ?_) (fun c => ?_)
      · replace h := h.1 c
        exact zretv X hr hlk hW h dX8_makeNew_31
      · replace h := h.2 c
        refine lv_aload_n hx hb dX8_makeNew_18 rfl (lv_at hl 0 rfl) ?_
        refine zg_Sheet_cells X hW h0 zu_393 dX8_makeNew_19 ?_
        refine lv_iload_n hx hb dX8_makeNew_22 rfl (lv_at hl 1 rfl) ?_
        refine lv_iconst hx hb dX8_makeNew_23 zc_i0 ?_
        obtain ⟨g, h⟩ := h
        refine ziast X hW h0.2 g dX8_makeNew_24 (fun H locs zm3 ezm3 hW => ?_)
        replace h := h zm3 ezm3
        obtain ⟨zx4, ezx4⟩ : ∃ y : Int32, y = x_3 + 1 := ⟨_, rfl⟩
        replace h := h zx4 ezx4
        refine lv_iinc (v := zx4) (lv' := [(3, .int zx4), (0, .ref (zad w k))]) hx hb dX8_makeNew_25 hl (k := 1) rfl (by rw [ezx4, zc_i1]) (Nat.le_of_ble_eq_true rfl) rfl (fun ls hl => ?_)
        refine lv_goto (tgt := 12) hx hb dX8_makeNew_28 rfl ?_
        exact zJ zx4 zm3 H locs ls hW (lv_sub hl [1, 0] rfl) h
  unfold wp_Sheet_makeNew at h
  have zMain : ∀ (H : Heap) (locs : List Loc) (ls : Array Slot), zWo w s.heap M H locs → lv_has ls 4 [(0, .ref (zad w k)), (1, .int a1), (2, .int a2)] → W p l e (zRm 0 0) s m ([.ref (zad w k), .int a1, .int a2] : List Value).toArray below meth c H locs 0 0 (MQ below (va_Qv post (zB w) (zA w)) ([.ref (zad w k), .int a1, .int a2] : List Value).toArray s 0 0 (zA w)) (F0 m 0 ls []) := by
    intro H locs ls hW hl
    refine lv_aload_n hx hb dX8_makeNew_0 rfl (lv_at hl 0 rfl) ?_
    refine lv_iload_n hx hb dX8_makeNew_1 rfl (lv_at hl 1 rfl) ?_
    refine zp_Sheet_lane X hW h0 zu_389 dX8_makeNew_2 (fun H locs zm1 ezm1 hW => ?_)
    replace h := h zm1 ezm1
    refine lv_aload_n hx hb dX8_makeNew_5 rfl (lv_at hl 0 rfl) ?_
    refine lv_iload_n hx hb dX8_makeNew_6 rfl (lv_at hl 2 rfl) ?_
    refine zp_Sheet_size X hW h0 zu_391 dX8_makeNew_7 (fun H locs zm2 ezm2 hW => ?_)
    replace h := h zm2 ezm2
    refine lv_iconst hx hb dX8_makeNew_10 zc_i0 ?_
    refine lv_istore_n (lv' := [(3, .int 0), (0, .ref (zad w k)), (1, .int a1), (2, .int a2)]) hx hb dX8_makeNew_11 rfl hl (Nat.le_of_ble_eq_true rfl) rfl (fun ls hl => ?_)
    obtain ⟨n, h⟩ := h
    refine zL_12   n 0 zm2 H locs ls hW (lv_sub hl [1, 0] rfl) h
  exact zMain s.heap [] ls hW hl
def wp_Sheet_put (k : Nat) (a1 : Int32) (a2 : Int32) (M : zMem) (Q : zMem → Prop) : Prop :=
  (¬ (M k 0) = 0 → (¬ (M k 0) = 1 → vp_in a1 40 ∧ ∀ zm1 : zMem, zm1 = zup M (k + 1) (ix a1) a2 → Q zm1) ∧ ((M k 0) = 1 → vp_in a1 40 ∧ ∀ zm2 : zMem, zm2 = zup M (k + 1) (ix a1) a2.toInt16.toInt32 → Q zm2)) ∧ ((M k 0) = 0 → vp_in a1 40 ∧ ∀ zm3 : zMem, zm3 = zup M (k + 1) (ix a1) a2.toInt8.toInt32 → Q zm3)
set_option maxHeartbeats 4000000 in
set_option maxRecDepth 20000 in
theorem c_Sheet_put {l : Launch} {w : zWd} {k : Nat} {a1 : Int32} {a2 : Int32} {M : zMem} {post : zMem → Prop} (h0 : zI_Sheet w k) (h : wp_Sheet_put k a1 a2 M post) : zMv l ⟨"HandToHand$Sheet", "put", "(II)V"⟩ prog_10_method_3_code 3 none 0 0 w [.ref (zad w k), .int a1, .int a2] M post := by
  refine zMet (by decide) (Nat.le_of_ble_eq_true rfl) ?_
  intro p e s m below meth c X hr hlk hml hW ls hl
  have hx := X.1
  have hb := X.2.1
  have hl : lv_has ls 3 [(0, .ref (zad w k)), (1, .int a1), (2, .int a2)] := hl
  unfold wp_Sheet_put at h
  have zMain : ∀ (H : Heap) (locs : List Loc) (ls : Array Slot), zWo w s.heap M H locs → lv_has ls 3 [(0, .ref (zad w k)), (1, .int a1), (2, .int a2)] → W p l e (zRm 0 0) s m ([.ref (zad w k), .int a1, .int a2] : List Value).toArray below meth c H locs 0 0 (MQ below (va_Qv post (zB w) (zA w)) ([.ref (zad w k), .int a1, .int a2] : List Value).toArray s 0 0 (zA w)) (F0 m 0 ls []) := by
    intro H locs ls hW hl
    refine lv_aload_n hx hb dX8_put_0 rfl (lv_at hl 0 rfl) ?_
    refine zg_Sheet_cells X hW h0 zu_393 dX8_put_1 ?_
    refine lv_iload_n hx hb dX8_put_4 rfl (lv_at hl 1 rfl) ?_
    refine lv_aload_n hx hb dX8_put_5 rfl (lv_at hl 0 rfl) ?_
    refine zg_Sheet_lane X hW h0 zu_389 dX8_put_6 ?_
    refine lv_if_ne (tgt := 17) hx hb dX8_put_9 rfl (fun c => ?_) (fun c => ?_)
    · replace h := h.1 c
      refine lv_aload_n hx hb dX8_put_17 rfl (lv_at hl 0 rfl) ?_
      refine zg_Sheet_lane X hW h0 zu_389 dX8_put_18 ?_
      refine lv_iconst hx hb dX8_put_21 zc_i1 ?_
      refine lv_icmp_ne (tgt := 30) hx hb dX8_put_22 rfl (fun c => ?_) (fun c => ?_)
      · replace h := h.1 c
        refine lv_iload_n hx hb dX8_put_30 rfl (lv_at hl 2 rfl) ?_
        obtain ⟨g, h⟩ := h
        refine ziast X hW h0.2 g dX8_put_31 (fun H locs zm1 ezm1 hW => ?_)
        replace h := h zm1 ezm1
        exact zretv X hr hlk hW h dX8_put_32
      · replace h := h.2 c
        refine lv_iload_n hx hb dX8_put_25 rfl (lv_at hl 2 rfl) ?_
        refine lv_i2s hx hb dX8_put_26 rfl ?_
        refine lv_goto (tgt := 31) hx hb dX8_put_27 rfl ?_
        obtain ⟨g, h⟩ := h
        refine ziast X hW h0.2 g dX8_put_31 (fun H locs zm2 ezm2 hW => ?_)
        replace h := h zm2 ezm2
        exact zretv X hr hlk hW h dX8_put_32
    · replace h := h.2 c
      refine lv_iload_n hx hb dX8_put_12 rfl (lv_at hl 2 rfl) ?_
      refine lv_i2b hx hb dX8_put_13 rfl ?_
      refine lv_goto (tgt := 31) hx hb dX8_put_14 rfl ?_
      obtain ⟨g, h⟩ := h
      refine ziast X hW h0.2 g dX8_put_31 (fun H locs zm3 ezm3 hW => ?_)
      replace h := h zm3 ezm3
      exact zretv X hr hlk hW h dX8_put_32
  exact zMain s.heap [] ls hW hl
def wp_Sheet_faultAs (k : Nat) (a1 : Int32) (M : zMem) (Q : Int32 → zMem → Prop) : Prop :=
  (¬ (M k 0) = (-1) → ((M k 0) = a1 → Q 0 M) ∧ (¬ (M k 0) = a1 → Q 3 M)) ∧ ((M k 0) = (-1) → Q 1 M)
set_option maxHeartbeats 4000000 in
set_option maxRecDepth 20000 in
theorem c_Sheet_faultAs {l : Launch} {w : zWd} {k : Nat} {a1 : Int32} {M : zMem} {post : Int32 → zMem → Prop} (h0 : zI_Sheet w k) (h : wp_Sheet_faultAs k a1 M post) : zMi l ⟨"HandToHand$Sheet", "faultAs", "(I)I"⟩ prog_10_method_4_code 2 (Option.some .int) 0 0 w [.ref (zad w k), .int a1] M post := by
  refine zMet (by decide) (Nat.le_of_ble_eq_true rfl) ?_
  intro p e s m below meth c X hr hlk hml hW ls hl
  have hx := X.1
  have hb := X.2.1
  have hl : lv_has ls 2 [(0, .ref (zad w k)), (1, .int a1)] := hl
  unfold wp_Sheet_faultAs at h
  have zMain : ∀ (H : Heap) (locs : List Loc) (ls : Array Slot), zWo w s.heap M H locs → lv_has ls 2 [(0, .ref (zad w k)), (1, .int a1)] → W p l e (zRm 0 0) s m ([.ref (zad w k), .int a1] : List Value).toArray below meth c H locs 0 0 (MQ below (va_Qi post (zB w) (zA w)) ([.ref (zad w k), .int a1] : List Value).toArray s 0 0 (zA w)) (F0 m 0 ls []) := by
    intro H locs ls hW hl
    refine lv_aload_n hx hb dX8_faultAs_0 rfl (lv_at hl 0 rfl) ?_
    refine zg_Sheet_lane X hW h0 zu_389 dX8_faultAs_1 ?_
    refine lv_iconst hx hb dX8_faultAs_4 zc_im1 ?_
    refine lv_icmp_ne (tgt := 10) hx hb dX8_faultAs_5 rfl (fun c => ?_) (fun c => ?_)
    · replace h := h.1 c
      refine lv_aload_n hx hb dX8_faultAs_10 rfl (lv_at hl 0 rfl) ?_
      refine zg_Sheet_lane X hW h0 zu_389 dX8_faultAs_11 ?_
      refine lv_iload_n hx hb dX8_faultAs_14 rfl (lv_at hl 1 rfl) ?_
      refine lv_icmp_eq (tgt := 22) hx hb dX8_faultAs_15 rfl (fun c => ?_) (fun c => ?_)
      · replace h := h.1 c
        refine lv_iconst hx hb dX8_faultAs_22 zc_i0 ?_
        exact zreti X hr hlk hW h dX8_faultAs_23
      · replace h := h.2 c
        refine lv_iconst hx hb dX8_faultAs_18 zc_i3 ?_
        refine lv_goto (tgt := 23) hx hb dX8_faultAs_19 rfl ?_
        exact zreti X hr hlk hW h dX8_faultAs_23
    · replace h := h.2 c
      refine lv_iconst hx hb dX8_faultAs_8 zc_i1 ?_
      exact zreti X hr hlk hW h dX8_faultAs_9
  exact zMain s.heap [] ls hW hl
def wp_Sheet_wholeRows (k : Nat) (a1 : Int32) (a2 : Int32) (a3 : Int32) (M : zMem) (Q : Int32 → zMem → Prop) : Prop :=
  (a1 < 0 → Q 0 M) ∧ (¬ a1 < 0 → ((M k 1) ≤ a1 → Q 0 M) ∧ (¬ (M k 1) ≤ a1 → (1 ≤ a2 → (¬ a2 = 0) ∧ ∀ zx1 : Int32, zx1 = ((M k 1) - a1) / a2 → (a3 ≤ zx1 → Q a3 M) ∧ (¬ a3 ≤ zx1 → Q zx1 M)) ∧ (¬ 1 ≤ a2 → Q 0 M)))
set_option maxHeartbeats 4000000 in
set_option maxRecDepth 20000 in
theorem c_Sheet_wholeRows {l : Launch} {w : zWd} {k : Nat} {a1 : Int32} {a2 : Int32} {a3 : Int32} {M : zMem} {post : Int32 → zMem → Prop} (h0 : zI_Sheet w k) (h : wp_Sheet_wholeRows k a1 a2 a3 M post) : zMi l ⟨"HandToHand$Sheet", "wholeRows", "(III)I"⟩ prog_10_method_5_code 5 (Option.some .int) 0 0 w [.ref (zad w k), .int a1, .int a2, .int a3] M post := by
  refine zMet (by decide) (Nat.le_of_ble_eq_true rfl) ?_
  intro p e s m below meth c X hr hlk hml hW ls hl
  have hx := X.1
  have hb := X.2.1
  have hl : lv_has ls 5 [(0, .ref (zad w k)), (1, .int a1), (2, .int a2), (3, .int a3)] := hl
  unfold wp_Sheet_wholeRows at h
  have zMain : ∀ (H : Heap) (locs : List Loc) (ls : Array Slot), zWo w s.heap M H locs → lv_has ls 5 [(0, .ref (zad w k)), (1, .int a1), (2, .int a2), (3, .int a3)] → W p l e (zRm 0 0) s m ([.ref (zad w k), .int a1, .int a2, .int a3] : List Value).toArray below meth c H locs 0 0 (MQ below (va_Qi post (zB w) (zA w)) ([.ref (zad w k), .int a1, .int a2, .int a3] : List Value).toArray s 0 0 (zA w)) (F0 m 0 ls []) := by
    intro H locs ls hW hl
    refine lv_iload_n hx hb dX8_wholeRows_0 rfl (lv_at hl 1 rfl) ?_
    refine lv_if_lt (tgt := 17) hx hb dX8_wholeRows_1 rfl (fun c => ?_) (fun c => ?_)
    · replace h := h.1 c
      refine lv_iconst hx hb dX8_wholeRows_17 zc_i0 ?_
      exact zreti X hr hlk hW h dX8_wholeRows_18
    · replace h := h.2 c
      refine lv_iload_n hx hb dX8_wholeRows_4 rfl (lv_at hl 1 rfl) ?_
      refine lv_aload_n hx hb dX8_wholeRows_5 rfl (lv_at hl 0 rfl) ?_
      refine zg_Sheet_size X hW h0 zu_391 dX8_wholeRows_6 ?_
      refine lv_icmp_ge (tgt := 17) hx hb dX8_wholeRows_9 rfl (fun c => ?_) (fun c => ?_)
      · replace h := h.1 c
        refine lv_iconst hx hb dX8_wholeRows_17 zc_i0 ?_
        exact zreti X hr hlk hW h dX8_wholeRows_18
      · replace h := h.2 c
        refine lv_iload_n hx hb dX8_wholeRows_12 rfl (lv_at hl 2 rfl) ?_
        refine lv_iconst hx hb dX8_wholeRows_13 zc_i1 ?_
        refine lv_icmp_ge (tgt := 19) hx hb dX8_wholeRows_14 rfl (fun c => ?_) (fun c => ?_)
        · replace h := h.1 c
          refine lv_aload_n hx hb dX8_wholeRows_19 rfl (lv_at hl 0 rfl) ?_
          refine zg_Sheet_size X hW h0 zu_391 dX8_wholeRows_20 ?_
          refine lv_iload_n hx hb dX8_wholeRows_23 rfl (lv_at hl 1 rfl) ?_
          refine lv_isub hx hb dX8_wholeRows_24 ?_
          refine lv_iload_n hx hb dX8_wholeRows_25 rfl (lv_at hl 2 rfl) ?_
          obtain ⟨g, h⟩ := h
          refine lv_idiv hx hb dX8_wholeRows_26 g ?_
          refine lv_topi (fun zx1 ezx1 => ?_)
          replace h := h zx1 ezx1
          refine lv_istore (lv' := [(4, .int zx1), (0, .ref (zad w k)), (1, .int a1), (2, .int a2), (3, .int a3)]) hx hb dX8_wholeRows_27 hl (Nat.le_of_ble_eq_true rfl) rfl (fun ls hl => ?_)
          refine lv_iload hx hb dX8_wholeRows_29 (lv_at hl 0 rfl) ?_
          refine lv_iload_n hx hb dX8_wholeRows_31 rfl (lv_at hl 4 rfl) ?_
          refine lv_icmp_ge (tgt := 40) hx hb dX8_wholeRows_32 rfl (fun c => ?_) (fun c => ?_)
          · replace h := h.1 c
            refine lv_iload_n hx hb dX8_wholeRows_40 rfl (lv_at hl 4 rfl) ?_
            exact zreti X hr hlk hW h dX8_wholeRows_41
          · replace h := h.2 c
            refine lv_iload hx hb dX8_wholeRows_35 (lv_at hl 0 rfl) ?_
            refine lv_goto (tgt := 41) hx hb dX8_wholeRows_37 rfl ?_
            exact zreti X hr hlk hW h dX8_wholeRows_41
        · replace h := h.2 c
          refine lv_iconst hx hb dX8_wholeRows_17 zc_i0 ?_
          exact zreti X hr hlk hW h dX8_wholeRows_18
  exact zMain s.heap [] ls hW hl
def wp_Reader_refuse (k : Nat) (a1 : Int32) (a2 : Int32) (M : zMem) (Q : Int32 → zMem → Prop) : Prop :=
  ∀ zm1 : zMem, zm1 = zup M k 1 a1 → ∀ zm2 : zMem, zm2 = zup zm1 k 2 a2 → Q 0 zm2
set_option maxHeartbeats 4000000 in
set_option maxRecDepth 20000 in
theorem c_Reader_refuse {l : Launch} {w : zWd} {k : Nat} {a1 : Int32} {a2 : Int32} {M : zMem} {post : Int32 → zMem → Prop} (h0 : zI_Reader w k) (h : wp_Reader_refuse k a1 a2 M post) : zMi l ⟨"HandToHand$Reader", "refuse", "(II)Z"⟩ prog_7_method_3_code 3 (Option.some .boolean) 0 0 w [.ref (zad w k), .int a1, .int a2] M post := by
  refine zMet (by decide) (Nat.le_of_ble_eq_true rfl) ?_
  intro p e s m below meth c X hr hlk hml hW ls hl
  have hx := X.1
  have hb := X.2.1
  have hl : lv_has ls 3 [(0, .ref (zad w k)), (1, .int a1), (2, .int a2)] := hl
  unfold wp_Reader_refuse at h
  have zMain : ∀ (H : Heap) (locs : List Loc) (ls : Array Slot), zWo w s.heap M H locs → lv_has ls 3 [(0, .ref (zad w k)), (1, .int a1), (2, .int a2)] → W p l e (zRm 0 0) s m ([.ref (zad w k), .int a1, .int a2] : List Value).toArray below meth c H locs 0 0 (MQ below (va_Qi post (zB w) (zA w)) ([.ref (zad w k), .int a1, .int a2] : List Value).toArray s 0 0 (zA w)) (F0 m 0 ls []) := by
    intro H locs ls hW hl
    refine lv_aload_n hx hb dX5_refuse_0 rfl (lv_at hl 0 rfl) ?_
    refine lv_iload_n hx hb dX5_refuse_1 rfl (lv_at hl 1 rfl) ?_
    refine zp_Reader_fault X hW h0 zu_106 dX5_refuse_2 (fun H locs zm1 ezm1 hW => ?_)
    replace h := h zm1 ezm1
    refine lv_aload_n hx hb dX5_refuse_5 rfl (lv_at hl 0 rfl) ?_
    refine lv_iload_n hx hb dX5_refuse_6 rfl (lv_at hl 2 rfl) ?_
    refine zp_Reader_faultPlace X hW h0 zu_108 dX5_refuse_7 (fun H locs zm2 ezm2 hW => ?_)
    replace h := h zm2 ezm2
    refine lv_iconst hx hb dX5_refuse_10 zc_i0 ?_
    exact zretz X hr hlk hW rfl h dX5_refuse_11
  exact zMain s.heap [] ls hW hl
def wpJ_Reader_isComplete_77 (k : Nat)  (J : Int32 → zMem → Prop) (Q : Int32 → zMem → Prop) (x_1 : Int32)  (M : zMem) : Prop :=
  wp_Told_pieceFrom (k + 1) 0 x_1 M (fun zr6 zm5 => (¬ zr6 = (zm5 (k + 1) 0) → ∀ zx7 : Int32, zx7 = x_1 + 1 → J zx7 zm5) ∧ (zr6 = (zm5 (k + 1) 0) → wp_Reader_refuse k 7 (zm5 k 5) zm5 (fun zr9 zm8 => zbo zr9 ∧ Q zr9 zm8)))
def wpB_Reader_isComplete_33 (k : Nat)   (Q : Int32 → zMem → Prop) (J : Int32 → zMem → Prop) (x_1 : Int32) (M : zMem) : Prop :=
  (3 ≤ x_1 → wp_Told_fillEnds (k + 1) M (fun zm3 => Q 1 zm3)) ∧ (¬ 3 ≤ x_1 → (¬ (((M k 11) >>> (x_1 &&& 31)) &&& 1) = 0 → wpJ_Reader_isComplete_77 k J Q x_1 M) ∧ ((((M k 11) >>> (x_1 &&& 31)) &&& 1) = 0 → (x_1 ≤ 0 → wpJ_Reader_isComplete_77 k J Q x_1 M) ∧ (¬ x_1 ≤ 0 → zcpok 0 (x_1 * 8) 8 24 24 ∧ ∀ zm10 : zMem, zm10 = zcopyM M (k + 3) (k + 3) 0 (x_1 * 8) 8 → wpJ_Reader_isComplete_77 k J Q x_1 zm10)))
def wp_Reader_isComplete (k : Nat) (M : zMem) (Q : Int32 → zMem → Prop) : Prop :=
  ((M (k + 1) 0) = 0 → wp_Reader_refuse k 6 (M k 5) M (fun zr2 zm1 => zbo zr2 ∧ Q zr2 zm1)) ∧ (¬ (M (k + 1) 0) = 0 → (¬ (M (k + 1) 1) = 0 → ∃ n : Nat, zlp1 (wpB_Reader_isComplete_33 k   Q) n 0 M) ∧ ((M (k + 1) 1) = 0 → wp_Reader_refuse k 6 (M k 5) M (fun zr12 zm11 => zbo zr12 ∧ Q zr12 zm11)))
set_option maxHeartbeats 4000000 in
set_option maxRecDepth 20000 in
theorem c_Reader_isComplete {l : Launch} {w : zWd} {k : Nat} {M : zMem} {post : Int32 → zMem → Prop} (h0 : zI_Reader w k) (h : wp_Reader_isComplete k M post) : zMi l ⟨"HandToHand$Reader", "isComplete", "()Z"⟩ prog_7_method_4_code 2 (Option.some .boolean) 1 30 w [.ref (zad w k)] M post := by
  refine zMet (by decide) (Nat.le_of_ble_eq_true rfl) ?_
  intro p e s m below meth c X hr hlk hml hW ls hl
  have hx := X.1
  have hb := X.2.1
  have hl : lv_has ls 2 [(0, .ref (zad w k))] := hl
  have zJ_77 : ∀ (x_1 : Int32) (J : Int32 → zMem → Prop) (zJ : ∀ (y_1 : Int32) (M : zMem) (H : Heap) (locs : List Loc) (ls : Array Slot), zWo w s.heap M H locs → lv_has ls 2 [(0, .ref (zad w k)), (1, .int y_1)] → J y_1 M → W p l e (zRm 1 30) s m ([.ref (zad w k)] : List Value).toArray below meth c H locs 0 0 (MQ below (va_Qi post (zB w) (zA w)) ([.ref (zad w k)] : List Value).toArray s 0 0 (zA w)) (F0 m 33 ls [])) (M : zMem) (H : Heap) (locs : List Loc) (ls : Array Slot), zWo w s.heap M H locs → lv_has ls 2 [(0, .ref (zad w k)), (1, .int x_1)] → wpJ_Reader_isComplete_77 k J post x_1 M → W p l e (zRm 1 30) s m ([.ref (zad w k)] : List Value).toArray below meth c H locs 0 0 (MQ below (va_Qi post (zB w) (zA w)) ([.ref (zad w k)] : List Value).toArray s 0 0 (zA w)) (F0 m 77 ls []) := by
    intro x_1 J zJ M H locs ls hW hl h
    unfold wpJ_Reader_isComplete_77 at h
    refine lv_aload_n hx hb dX5_isComplete_77 rfl (lv_at hl 0 rfl) ?_
    refine zg_Reader_draft X hW h0 zu_104 dX5_isComplete_78 ?_
    refine lv_iconst hx hb dX5_isComplete_81 zc_i0 ?_
    refine lv_iload_n hx hb dX5_isComplete_82 rfl (lv_at hl 1 rfl) ?_
    refine zcalli (zrunV (As := [.int 0, .int x_1]) (rest := []) X hml hl hW h0.2.2.1 rfl zk_Reader_87 (c_Told_pieceFrom h0.2.2 h) rfl ⟨Nat.le_of_ble_eq_true rfl, Nat.le_of_ble_eq_true rfl⟩ ⟨Nat.le_refl 0, Nat.le_refl 0⟩ rfl (Nat.le_of_ble_eq_true rfl) dX5_isComplete_83) hW (fun zr6 zm5 H locs h hW => ?_)
    refine lv_aload_n hx hb dX5_isComplete_86 rfl (lv_at hl 0 rfl) ?_
    refine zg_Reader_draft X hW h0 zu_104 dX5_isComplete_87 ?_
    refine zg_Told_pieces X hW h0.2.2 zu_34 dX5_isComplete_90 ?_
    refine lv_icmp_ne (tgt := 107) hx hb dX5_isComplete_93 rfl (fun c => ?_) (fun c => ?_)
    · replace h := h.1 c
      obtain ⟨zx7, ezx7⟩ : ∃ y : Int32, y = x_1 + 1 := ⟨_, rfl⟩
      replace h := h zx7 ezx7
      refine lv_iinc (v := zx7) (lv' := [(1, .int zx7), (0, .ref (zad w k))]) hx hb dX5_isComplete_107 hl (k := 1) rfl (by rw [ezx7, zc_i1]) (Nat.le_of_ble_eq_true rfl) rfl (fun ls hl => ?_)
      refine lv_goto (tgt := 33) hx hb dX5_isComplete_110 rfl ?_
      exact zJ zx7 zm5 H locs ls hW (lv_sub hl [1, 0] rfl) h
    · replace h := h.2 c
      refine lv_aload_n hx hb dX5_isComplete_96 rfl (lv_at hl 0 rfl) ?_
      refine lv_bipush hx hb dX5_isComplete_97 zc_b7 ?_
      refine lv_aload_n hx hb dX5_isComplete_99 rfl (lv_at hl 0 rfl) ?_
      refine zg_Reader_length X hW h0 zu_115 dX5_isComplete_100 ?_
      refine zcalli (zrunV (As := [.int 7, .int (zm5 k 5)]) (rest := []) X hml hl hW h0.1 rfl zk_Reader_73 (c_Reader_refuse h0 h) rfl ⟨Nat.le_of_ble_eq_true rfl, Nat.le_of_ble_eq_true rfl⟩ ⟨Nat.le_refl 0, Nat.le_refl 0⟩ rfl (Nat.le_of_ble_eq_true rfl) dX5_isComplete_103) hW (fun zr9 zm8 H locs h hW => ?_)
      exact zretz X hr hlk hW (zbo_n h.1) h.2 dX5_isComplete_106
  have zL_33 :  ∀ (n : Nat) (x_1 : Int32) (M : zMem) (H : Heap) (locs : List Loc) (ls : Array Slot), zWo w s.heap M H locs → lv_has ls 2 [(0, .ref (zad w k)), (1, .int x_1)] → zlp1 (wpB_Reader_isComplete_33 k   post) n x_1 M → W p l e (zRm 1 30) s m ([.ref (zad w k)] : List Value).toArray below meth c H locs 0 0 (MQ below (va_Qi post (zB w) (zA w)) ([.ref (zad w k)] : List Value).toArray s 0 0 (zA w)) (F0 m 33 ls []) := by
    intro n
    induction n with
    | zero => intro x_1 M H locs ls hW hl h; exact h.elim
    | succ n zJ =>
      intro x_1 M H locs ls hW hl h
      have h : wpB_Reader_isComplete_33 k   post (zlp1 (wpB_Reader_isComplete_33 k   post) n) x_1 M := h
      unfold wpB_Reader_isComplete_33 at h
      refine lv_iload_n hx hb dX5_isComplete_33 rfl (lv_at hl 1 rfl) ?_
      refine lv_iconst hx hb dX5_isComplete_34 zc_i3 ?_
      refine lv_icmp_ge (tgt := 113) hx hb dX5_isComplete_35 rfl (fun c => ?_) (fun c => ?_)
      · replace h := h.1 c
        refine lv_aload_n hx hb dX5_isComplete_113 rfl (lv_at hl 0 rfl) ?_
        refine zg_Reader_draft X hW h0 zu_104 dX5_isComplete_114 ?_
        refine zcallv (zrunV (As := []) (rest := []) X hml hl hW h0.2.2.1 rfl zk_Reader_91 (c_Told_fillEnds h0.2.2 h) rfl ⟨Nat.le_of_ble_eq_true rfl, Nat.le_of_ble_eq_true rfl⟩ ⟨Nat.le_refl 0, Nat.le_refl 0⟩ rfl (Nat.le_of_ble_eq_true rfl) dX5_isComplete_117) hW (fun zm3 H locs h hW => ?_)
        refine lv_iconst hx hb dX5_isComplete_120 zc_i1 ?_
        exact zretz X hr hlk hW rfl h dX5_isComplete_121
      · replace h := h.2 c
        refine lv_aload_n hx hb dX5_isComplete_38 rfl (lv_at hl 0 rfl) ?_
        refine zg_Reader_sorts X hW h0 zu_121 dX5_isComplete_39 ?_
        refine lv_iload_n hx hb dX5_isComplete_42 rfl (lv_at hl 1 rfl) ?_
        refine lv_ishr hx hb dX5_isComplete_43 ?_
        refine lv_iconst hx hb dX5_isComplete_44 zc_i1 ?_
        refine lv_iand hx hb dX5_isComplete_45 ?_
        refine lv_if_ne (tgt := 77) hx hb dX5_isComplete_46 rfl (fun c => ?_) (fun c => ?_)
        · replace h := h.1 c
          exact zJ_77 x_1 _ zJ M H locs ls hW (lv_sub hl [0, 1] rfl) h
        · replace h := h.2 c
          refine lv_iload_n hx hb dX5_isComplete_49 rfl (lv_at hl 1 rfl) ?_
          refine lv_if_le (tgt := 77) hx hb dX5_isComplete_50 rfl (fun c => ?_) (fun c => ?_)
          · replace h := h.1 c
            exact zJ_77 x_1 _ zJ M H locs ls hW (lv_sub hl [0, 1] rfl) h
          · replace h := h.2 c
            refine lv_aload_n hx hb dX5_isComplete_53 rfl (lv_at hl 0 rfl) ?_
            refine zg_Reader_draft X hW h0 zu_104 dX5_isComplete_54 ?_
            refine zg_Told_units X hW h0.2.2 zu_64 dX5_isComplete_57 ?_
            refine lv_iconst hx hb dX5_isComplete_60 zc_i0 ?_
            refine lv_aload_n hx hb dX5_isComplete_61 rfl (lv_at hl 0 rfl) ?_
            refine zg_Reader_draft X hW h0 zu_104 dX5_isComplete_62 ?_
            refine zg_Told_units X hW h0.2.2 zu_64 dX5_isComplete_65 ?_
            refine lv_iload_n hx hb dX5_isComplete_68 rfl (lv_at hl 1 rfl) ?_
            refine lv_bipush hx hb dX5_isComplete_69 zc_b8 ?_
            refine lv_imul hx hb dX5_isComplete_71 ?_
            refine lv_bipush hx hb dX5_isComplete_72 zc_b8 ?_
            obtain ⟨g, h⟩ := h
            refine zcopy X hml hl hW h0.2.2.2.2.1 h0.2.2.2.2.1 zu_673 g ⟨Nat.le_of_ble_eq_true rfl, Nat.le_of_ble_eq_true rfl⟩ dX5_isComplete_74 (fun H locs zm10 ezm10 hW => ?_)
            replace h := h zm10 ezm10
            exact zJ_77 x_1 _ zJ zm10 H locs ls hW (lv_sub hl [0, 1] rfl) h
  unfold wp_Reader_isComplete at h
  have zMain : ∀ (H : Heap) (locs : List Loc) (ls : Array Slot), zWo w s.heap M H locs → lv_has ls 2 [(0, .ref (zad w k))] → W p l e (zRm 1 30) s m ([.ref (zad w k)] : List Value).toArray below meth c H locs 0 0 (MQ below (va_Qi post (zB w) (zA w)) ([.ref (zad w k)] : List Value).toArray s 0 0 (zA w)) (F0 m 0 ls []) := by
    intro H locs ls hW hl
    refine lv_aload_n hx hb dX5_isComplete_0 rfl (lv_at hl 0 rfl) ?_
    refine zg_Reader_draft X hW h0 zu_104 dX5_isComplete_1 ?_
    refine zg_Told_pieces X hW h0.2.2 zu_34 dX5_isComplete_4 ?_
    refine lv_if_eq (tgt := 20) hx hb dX5_isComplete_7 rfl (fun c => ?_) (fun c => ?_)
    · replace h := h.1 c
      refine lv_aload_n hx hb dX5_isComplete_20 rfl (lv_at hl 0 rfl) ?_
      refine lv_bipush hx hb dX5_isComplete_21 zc_b6 ?_
      refine lv_aload_n hx hb dX5_isComplete_23 rfl (lv_at hl 0 rfl) ?_
      refine zg_Reader_length X hW h0 zu_115 dX5_isComplete_24 ?_
      refine zcalli (zrunV (As := [.int 6, .int (M k 5)]) (rest := []) X hml hl hW h0.1 rfl zk_Reader_73 (c_Reader_refuse h0 h) rfl ⟨Nat.le_of_ble_eq_true rfl, Nat.le_of_ble_eq_true rfl⟩ ⟨Nat.le_refl 0, Nat.le_refl 0⟩ rfl (Nat.le_of_ble_eq_true rfl) dX5_isComplete_27) hW (fun zr2 zm1 H locs h hW => ?_)
      exact zretz X hr hlk hW (zbo_n h.1) h.2 dX5_isComplete_30
    · replace h := h.2 c
      refine lv_aload_n hx hb dX5_isComplete_10 rfl (lv_at hl 0 rfl) ?_
      refine zg_Reader_draft X hW h0 zu_104 dX5_isComplete_11 ?_
      refine zg_Told_hands X hW h0.2.2 zu_39 dX5_isComplete_14 ?_
      refine lv_if_ne (tgt := 31) hx hb dX5_isComplete_17 rfl (fun c => ?_) (fun c => ?_)
      · replace h := h.1 c
        refine lv_iconst hx hb dX5_isComplete_31 zc_i0 ?_
        refine lv_istore_n (lv' := [(1, .int 0), (0, .ref (zad w k))]) hx hb dX5_isComplete_32 rfl hl (Nat.le_of_ble_eq_true rfl) rfl (fun ls hl => ?_)
        obtain ⟨n, h⟩ := h
        refine zL_33   n 0 M H locs ls hW (lv_sub hl [1, 0] rfl) h
      · replace h := h.2 c
        refine lv_aload_n hx hb dX5_isComplete_20 rfl (lv_at hl 0 rfl) ?_
        refine lv_bipush hx hb dX5_isComplete_21 zc_b6 ?_
        refine lv_aload_n hx hb dX5_isComplete_23 rfl (lv_at hl 0 rfl) ?_
        refine zg_Reader_length X hW h0 zu_115 dX5_isComplete_24 ?_
        refine zcalli (zrunV (As := [.int 6, .int (M k 5)]) (rest := []) X hml hl hW h0.1 rfl zk_Reader_73 (c_Reader_refuse h0 h) rfl ⟨Nat.le_of_ble_eq_true rfl, Nat.le_of_ble_eq_true rfl⟩ ⟨Nat.le_refl 0, Nat.le_refl 0⟩ rfl (Nat.le_of_ble_eq_true rfl) dX5_isComplete_27) hW (fun zr12 zm11 H locs h hW => ?_)
        exact zretz X hr hlk hW (zbo_n h.1) h.2 dX5_isComplete_30
  exact zMain s.heap [] ls hW hl
def wp_Reader_isLetter (k : Nat) (a1 : Int32) (M : zMem) (Q : Int32 → zMem → Prop) : Prop :=
  vp_in a1 400 ∧ ((M (k + 6) (ix a1)) < 97 → Q 0 M) ∧ (¬ (M (k + 6) (ix a1)) < 97 → vp_in a1 400 ∧ (122 < (M (k + 6) (ix a1)) → Q 0 M) ∧ (¬ 122 < (M (k + 6) (ix a1)) → Q 1 M))
set_option maxHeartbeats 4000000 in
set_option maxRecDepth 20000 in
theorem c_Reader_isLetter {l : Launch} {w : zWd} {k : Nat} {a1 : Int32} {M : zMem} {post : Int32 → zMem → Prop} (h0 : zI_Reader w k) (h : wp_Reader_isLetter k a1 M post) : zMi l ⟨"HandToHand$Reader", "isLetter", "(I)Z"⟩ prog_7_method_22_code 2 (Option.some .boolean) 0 0 w [.ref (zad w k), .int a1] M post := by
  refine zMet (by decide) (Nat.le_of_ble_eq_true rfl) ?_
  intro p e s m below meth c X hr hlk hml hW ls hl
  have hx := X.1
  have hb := X.2.1
  have hl : lv_has ls 2 [(0, .ref (zad w k)), (1, .int a1)] := hl
  unfold wp_Reader_isLetter at h
  have zMain : ∀ (H : Heap) (locs : List Loc) (ls : Array Slot), zWo w s.heap M H locs → lv_has ls 2 [(0, .ref (zad w k)), (1, .int a1)] → W p l e (zRm 0 0) s m ([.ref (zad w k), .int a1] : List Value).toArray below meth c H locs 0 0 (MQ below (va_Qi post (zB w) (zA w)) ([.ref (zad w k), .int a1] : List Value).toArray s 0 0 (zA w)) (F0 m 0 ls []) := by
    intro H locs ls hW hl
    refine lv_aload_n hx hb dX5_isLetter_0 rfl (lv_at hl 0 rfl) ?_
    refine zg_Reader_tape X hW h0 zu_112 dX5_isLetter_1 ?_
    refine lv_iload_n hx hb dX5_isLetter_4 rfl (lv_at hl 1 rfl) ?_
    obtain ⟨g, h⟩ := h
    refine zbald X hW h0.2.1 g dX5_isLetter_5 ?_
    refine lv_bipush hx hb dX5_isLetter_6 zc_b97 ?_
    refine lv_icmp_lt (tgt := 26) hx hb dX5_isLetter_8 rfl (fun c => ?_) (fun c => ?_)
    · replace h := h.1 c
      refine lv_iconst hx hb dX5_isLetter_26 zc_i0 ?_
      exact zretz X hr hlk hW rfl h dX5_isLetter_27
    · replace h := h.2 c
      refine lv_aload_n hx hb dX5_isLetter_11 rfl (lv_at hl 0 rfl) ?_
      refine zg_Reader_tape X hW h0 zu_112 dX5_isLetter_12 ?_
      refine lv_iload_n hx hb dX5_isLetter_15 rfl (lv_at hl 1 rfl) ?_
      obtain ⟨g, h⟩ := h
      refine zbald X hW h0.2.1 g dX5_isLetter_16 ?_
      refine lv_bipush hx hb dX5_isLetter_17 zc_b122 ?_
      refine lv_icmp_gt (tgt := 26) hx hb dX5_isLetter_19 rfl (fun c => ?_) (fun c => ?_)
      · replace h := h.1 c
        refine lv_iconst hx hb dX5_isLetter_26 zc_i0 ?_
        exact zretz X hr hlk hW rfl h dX5_isLetter_27
      · replace h := h.2 c
        refine lv_iconst hx hb dX5_isLetter_22 zc_i1 ?_
        refine lv_goto (tgt := 27) hx hb dX5_isLetter_23 rfl ?_
        exact zretz X hr hlk hW rfl h dX5_isLetter_27
  exact zMain s.heap [] ls hW hl
def wp_Reader_isFigure (k : Nat) (a1 : Int32) (M : zMem) (Q : Int32 → zMem → Prop) : Prop :=
  vp_in a1 400 ∧ ((M (k + 6) (ix a1)) < 48 → Q 0 M) ∧ (¬ (M (k + 6) (ix a1)) < 48 → vp_in a1 400 ∧ (57 < (M (k + 6) (ix a1)) → Q 0 M) ∧ (¬ 57 < (M (k + 6) (ix a1)) → Q 1 M))
set_option maxHeartbeats 4000000 in
set_option maxRecDepth 20000 in
theorem c_Reader_isFigure {l : Launch} {w : zWd} {k : Nat} {a1 : Int32} {M : zMem} {post : Int32 → zMem → Prop} (h0 : zI_Reader w k) (h : wp_Reader_isFigure k a1 M post) : zMi l ⟨"HandToHand$Reader", "isFigure", "(I)Z"⟩ prog_7_method_23_code 2 (Option.some .boolean) 0 0 w [.ref (zad w k), .int a1] M post := by
  refine zMet (by decide) (Nat.le_of_ble_eq_true rfl) ?_
  intro p e s m below meth c X hr hlk hml hW ls hl
  have hx := X.1
  have hb := X.2.1
  have hl : lv_has ls 2 [(0, .ref (zad w k)), (1, .int a1)] := hl
  unfold wp_Reader_isFigure at h
  have zMain : ∀ (H : Heap) (locs : List Loc) (ls : Array Slot), zWo w s.heap M H locs → lv_has ls 2 [(0, .ref (zad w k)), (1, .int a1)] → W p l e (zRm 0 0) s m ([.ref (zad w k), .int a1] : List Value).toArray below meth c H locs 0 0 (MQ below (va_Qi post (zB w) (zA w)) ([.ref (zad w k), .int a1] : List Value).toArray s 0 0 (zA w)) (F0 m 0 ls []) := by
    intro H locs ls hW hl
    refine lv_aload_n hx hb dX5_isFigure_0 rfl (lv_at hl 0 rfl) ?_
    refine zg_Reader_tape X hW h0 zu_112 dX5_isFigure_1 ?_
    refine lv_iload_n hx hb dX5_isFigure_4 rfl (lv_at hl 1 rfl) ?_
    obtain ⟨g, h⟩ := h
    refine zbald X hW h0.2.1 g dX5_isFigure_5 ?_
    refine lv_bipush hx hb dX5_isFigure_6 zc_b48 ?_
    refine lv_icmp_lt (tgt := 26) hx hb dX5_isFigure_8 rfl (fun c => ?_) (fun c => ?_)
    · replace h := h.1 c
      refine lv_iconst hx hb dX5_isFigure_26 zc_i0 ?_
      exact zretz X hr hlk hW rfl h dX5_isFigure_27
    · replace h := h.2 c
      refine lv_aload_n hx hb dX5_isFigure_11 rfl (lv_at hl 0 rfl) ?_
      refine zg_Reader_tape X hW h0 zu_112 dX5_isFigure_12 ?_
      refine lv_iload_n hx hb dX5_isFigure_15 rfl (lv_at hl 1 rfl) ?_
      obtain ⟨g, h⟩ := h
      refine zbald X hW h0.2.1 g dX5_isFigure_16 ?_
      refine lv_bipush hx hb dX5_isFigure_17 zc_b57 ?_
      refine lv_icmp_gt (tgt := 26) hx hb dX5_isFigure_19 rfl (fun c => ?_) (fun c => ?_)
      · replace h := h.1 c
        refine lv_iconst hx hb dX5_isFigure_26 zc_i0 ?_
        exact zretz X hr hlk hW rfl h dX5_isFigure_27
      · replace h := h.2 c
        refine lv_iconst hx hb dX5_isFigure_22 zc_i1 ?_
        refine lv_goto (tgt := 27) hx hb dX5_isFigure_23 rfl ?_
        exact zretz X hr hlk hW rfl h dX5_isFigure_27
  exact zMain s.heap [] ls hW hl
def wpB_Reader_readFigures_10 (k : Nat)  (K89 : zMem → Prop) (Q : Int32 → zMem → Prop) (J : zMem → Prop)  (M : zMem) : Prop :=
  ((M k 5) ≤ (M k 6) → K89 M) ∧ (¬ (M k 5) ≤ (M k 6) → wp_Reader_isFigure k (M k 6) M (fun zr4 zm3 => (zr4 = 0 → K89 zm3) ∧ (¬ zr4 = 0 → (2 ≤ ((zm3 k 6) - (zm3 k 8)) → ∀ zm5 : zMem, zm5 = zup zm3 k 9 (zm3 k 9) → ∀ zm6 : zMem, zm6 = zup zm5 k 6 ((zm5 k 6) + 1) → J zm6) ∧ (¬ 2 ≤ ((zm3 k 6) - (zm3 k 8)) → vp_in (zm3 k 6) 400 ∧ ∀ zm7 : zMem, zm7 = zup zm3 k 9 ((((zm3 k 9) * 10) + (zm3 (k + 6) (ix (zm3 k 6)))) - 48) → ∀ zm8 : zMem, zm8 = zup zm7 k 6 ((zm7 k 6) + 1) → J zm8))))
def wpJ_Reader_readFigures_89 (k : Nat)  (Q : Int32 → zMem → Prop)   (M : zMem) : Prop :=
  (((M k 6) - (M k 8)) ≤ 2 → Q 1 M) ∧ (¬ ((M k 6) - (M k 8)) ≤ 2 → wp_Reader_refuse k 1 (M k 8) M (fun zr11 zm10 => (zr11 = 0 → Q 0 zm10) ∧ (¬ zr11 = 0 → Q 1 zm10)))
def wp_Reader_readFigures (k : Nat) (M : zMem) (Q : Int32 → zMem → Prop) : Prop :=
  ∀ zm1 : zMem, zm1 = zup M k 7 2 → ∀ zm2 : zMem, zm2 = zup zm1 k 9 0 → ∃ n : Nat, zlp0 (wpB_Reader_readFigures_10 k  (fun (zm9 : zMem) => wpJ_Reader_readFigures_89 k Q zm9) Q) n  zm2
set_option maxHeartbeats 4000000 in
set_option maxRecDepth 20000 in
theorem c_Reader_readFigures {l : Launch} {w : zWd} {k : Nat} {M : zMem} {post : Int32 → zMem → Prop} (h0 : zI_Reader w k) (h : wp_Reader_readFigures k M post) : zMi l ⟨"HandToHand$Reader", "readFigures", "()Z"⟩ prog_7_method_21_code 1 (Option.some .boolean) 1 22 w [.ref (zad w k)] M post := by
  refine zMet (by decide) (Nat.le_of_ble_eq_true rfl) ?_
  intro p e s m below meth c X hr hlk hml hW ls hl
  have hx := X.1
  have hb := X.2.1
  have hl : lv_has ls 1 [(0, .ref (zad w k))] := hl
  have zL_10 : ∀ (K89 : zMem → Prop) (zK89 : ∀ (M : zMem) (H : Heap) (locs : List Loc) (ls : Array Slot), zWo w s.heap M H locs → lv_has ls 1 [(0, .ref (zad w k))] → K89 M → W p l e (zRm 1 22) s m ([.ref (zad w k)] : List Value).toArray below meth c H locs 0 0 (MQ below (va_Qi post (zB w) (zA w)) ([.ref (zad w k)] : List Value).toArray s 0 0 (zA w)) (F0 m 89 ls [])), ∀ (n : Nat) (M : zMem) (H : Heap) (locs : List Loc) (ls : Array Slot), zWo w s.heap M H locs → lv_has ls 1 [(0, .ref (zad w k))] → zlp0 (wpB_Reader_readFigures_10 k  K89 post) n M → W p l e (zRm 1 22) s m ([.ref (zad w k)] : List Value).toArray below meth c H locs 0 0 (MQ below (va_Qi post (zB w) (zA w)) ([.ref (zad w k)] : List Value).toArray s 0 0 (zA w)) (F0 m 10 ls []) := by
    intro K89 zK89 n
    induction n with
    | zero => intro M H locs ls hW hl h; exact h.elim
    | succ n zJ =>
      intro M H locs ls hW hl h
      have h : wpB_Reader_readFigures_10 k  K89 post (zlp0 (wpB_Reader_readFigures_10 k  K89 post) n) M := h
      unfold wpB_Reader_readFigures_10 at h
      refine lv_aload_n hx hb dX5_readFigures_10 rfl (lv_at hl 0 rfl) ?_
      refine zg_Reader_next X hW h0 zu_116 dX5_readFigures_11 ?_
      refine lv_aload_n hx hb dX5_readFigures_14 rfl (lv_at hl 0 rfl) ?_
      refine zg_Reader_length X hW h0 zu_115 dX5_readFigures_15 ?_
      refine lv_icmp_ge (tgt := 89) hx hb dX5_readFigures_18 rfl (fun c => ?_) (fun c => ?_)
      · replace h := h.1 c
        exact zK89 M H locs ls hW (lv_sub hl [0] rfl) h
      · replace h := h.2 c
        refine lv_aload_n hx hb dX5_readFigures_21 rfl (lv_at hl 0 rfl) ?_
        refine lv_aload_n hx hb dX5_readFigures_22 rfl (lv_at hl 0 rfl) ?_
        refine zg_Reader_next X hW h0 zu_116 dX5_readFigures_23 ?_
        refine zcalli (zrunV (As := [.int (M k 6)]) (rest := []) X hml hl hW h0.1 rfl zk_Reader_168 (c_Reader_isFigure h0 h) rfl ⟨Nat.le_of_ble_eq_true rfl, Nat.le_of_ble_eq_true rfl⟩ ⟨Nat.le_refl 0, Nat.le_refl 0⟩ rfl (Nat.le_of_ble_eq_true rfl) dX5_readFigures_26) hW (fun zr4 zm3 H locs h hW => ?_)
        refine lv_if_eq (tgt := 89) hx hb dX5_readFigures_29 rfl (fun c => ?_) (fun c => ?_)
        · replace h := h.1 c
          exact zK89 zm3 H locs ls hW (lv_sub hl [0] rfl) h
        · replace h := h.2 c
          refine lv_aload_n hx hb dX5_readFigures_32 rfl (lv_at hl 0 rfl) ?_
          refine lv_aload_n hx hb dX5_readFigures_33 rfl (lv_at hl 0 rfl) ?_
          refine zg_Reader_next X hW h0 zu_116 dX5_readFigures_34 ?_
          refine lv_aload_n hx hb dX5_readFigures_37 rfl (lv_at hl 0 rfl) ?_
          refine zg_Reader_start X hW h0 zu_118 dX5_readFigures_38 ?_
          refine lv_isub hx hb dX5_readFigures_41 ?_
          refine lv_iconst hx hb dX5_readFigures_42 zc_i2 ?_
          refine lv_icmp_ge (tgt := 69) hx hb dX5_readFigures_43 rfl (fun c => ?_) (fun c => ?_)
          · replace h := h.1 c
            refine lv_aload_n hx hb dX5_readFigures_69 rfl (lv_at hl 0 rfl) ?_
            refine zg_Reader_value X hW h0 zu_119 dX5_readFigures_70 ?_
            refine zp_Reader_value X hW h0 zu_119 dX5_readFigures_73 (fun H locs zm5 ezm5 hW => ?_)
            replace h := h zm5 ezm5
            refine lv_aload_n hx hb dX5_readFigures_76 rfl (lv_at hl 0 rfl) ?_
            refine lv_dup hx hb dX5_readFigures_77 rfl ?_
            refine zg_Reader_next X hW h0 zu_116 dX5_readFigures_78 ?_
            refine lv_iconst hx hb dX5_readFigures_81 zc_i1 ?_
            refine lv_iadd hx hb dX5_readFigures_82 ?_
            refine zp_Reader_next X hW h0 zu_116 dX5_readFigures_83 (fun H locs zm6 ezm6 hW => ?_)
            replace h := h zm6 ezm6
            refine lv_goto (tgt := 10) hx hb dX5_readFigures_86 rfl ?_
            exact zJ zm6 H locs ls hW (lv_sub hl [0] rfl) h
          · replace h := h.2 c
            refine lv_aload_n hx hb dX5_readFigures_46 rfl (lv_at hl 0 rfl) ?_
            refine zg_Reader_value X hW h0 zu_119 dX5_readFigures_47 ?_
            refine lv_bipush hx hb dX5_readFigures_50 zc_b10 ?_
            refine lv_imul hx hb dX5_readFigures_52 ?_
            refine lv_aload_n hx hb dX5_readFigures_53 rfl (lv_at hl 0 rfl) ?_
            refine zg_Reader_tape X hW h0 zu_112 dX5_readFigures_54 ?_
            refine lv_aload_n hx hb dX5_readFigures_57 rfl (lv_at hl 0 rfl) ?_
            refine zg_Reader_next X hW h0 zu_116 dX5_readFigures_58 ?_
            obtain ⟨g, h⟩ := h
            refine zbald X hW h0.2.1 g dX5_readFigures_61 ?_
            refine lv_iadd hx hb dX5_readFigures_62 ?_
            refine lv_bipush hx hb dX5_readFigures_63 zc_b48 ?_
            refine lv_isub hx hb dX5_readFigures_65 ?_
            refine lv_goto (tgt := 73) hx hb dX5_readFigures_66 rfl ?_
            refine zp_Reader_value X hW h0 zu_119 dX5_readFigures_73 (fun H locs zm7 ezm7 hW => ?_)
            replace h := h zm7 ezm7
            refine lv_aload_n hx hb dX5_readFigures_76 rfl (lv_at hl 0 rfl) ?_
            refine lv_dup hx hb dX5_readFigures_77 rfl ?_
            refine zg_Reader_next X hW h0 zu_116 dX5_readFigures_78 ?_
            refine lv_iconst hx hb dX5_readFigures_81 zc_i1 ?_
            refine lv_iadd hx hb dX5_readFigures_82 ?_
            refine zp_Reader_next X hW h0 zu_116 dX5_readFigures_83 (fun H locs zm8 ezm8 hW => ?_)
            replace h := h zm8 ezm8
            refine lv_goto (tgt := 10) hx hb dX5_readFigures_86 rfl ?_
            exact zJ zm8 H locs ls hW (lv_sub hl [0] rfl) h
  have zJ_89 : ∀ (M : zMem) (H : Heap) (locs : List Loc) (ls : Array Slot), zWo w s.heap M H locs → lv_has ls 1 [(0, .ref (zad w k))] → wpJ_Reader_readFigures_89 k post M → W p l e (zRm 1 22) s m ([.ref (zad w k)] : List Value).toArray below meth c H locs 0 0 (MQ below (va_Qi post (zB w) (zA w)) ([.ref (zad w k)] : List Value).toArray s 0 0 (zA w)) (F0 m 89 ls []) := by
    intro  M H locs ls hW hl h
    unfold wpJ_Reader_readFigures_89 at h
    refine lv_aload_n hx hb dX5_readFigures_89 rfl (lv_at hl 0 rfl) ?_
    refine zg_Reader_next X hW h0 zu_116 dX5_readFigures_90 ?_
    refine lv_aload_n hx hb dX5_readFigures_93 rfl (lv_at hl 0 rfl) ?_
    refine zg_Reader_start X hW h0 zu_118 dX5_readFigures_94 ?_
    refine lv_isub hx hb dX5_readFigures_97 ?_
    refine lv_iconst hx hb dX5_readFigures_98 zc_i2 ?_
    refine lv_icmp_le (tgt := 114) hx hb dX5_readFigures_99 rfl (fun c => ?_) (fun c => ?_)
    · replace h := h.1 c
      refine lv_iconst hx hb dX5_readFigures_114 zc_i1 ?_
      refine lv_goto (tgt := 119) hx hb dX5_readFigures_115 rfl ?_
      exact zretz X hr hlk hW rfl h dX5_readFigures_119
    · replace h := h.2 c
      refine lv_aload_n hx hb dX5_readFigures_102 rfl (lv_at hl 0 rfl) ?_
      refine lv_iconst hx hb dX5_readFigures_103 zc_i1 ?_
      refine lv_aload_n hx hb dX5_readFigures_104 rfl (lv_at hl 0 rfl) ?_
      refine zg_Reader_start X hW h0 zu_118 dX5_readFigures_105 ?_
      refine zcalli (zrunV (As := [.int 1, .int (M k 8)]) (rest := []) X hml hl hW h0.1 rfl zk_Reader_73 (c_Reader_refuse h0 h) rfl ⟨Nat.le_of_ble_eq_true rfl, Nat.le_of_ble_eq_true rfl⟩ ⟨Nat.le_refl 0, Nat.le_refl 0⟩ rfl (Nat.le_of_ble_eq_true rfl) dX5_readFigures_108) hW (fun zr11 zm10 H locs h hW => ?_)
      refine lv_if_eq (tgt := 118) hx hb dX5_readFigures_111 rfl (fun c => ?_) (fun c => ?_)
      · replace h := h.1 c
        refine lv_iconst hx hb dX5_readFigures_118 zc_i0 ?_
        exact zretz X hr hlk hW rfl h dX5_readFigures_119
      · replace h := h.2 c
        refine lv_iconst hx hb dX5_readFigures_114 zc_i1 ?_
        refine lv_goto (tgt := 119) hx hb dX5_readFigures_115 rfl ?_
        exact zretz X hr hlk hW rfl h dX5_readFigures_119
  unfold wp_Reader_readFigures at h
  have zMain : ∀ (H : Heap) (locs : List Loc) (ls : Array Slot), zWo w s.heap M H locs → lv_has ls 1 [(0, .ref (zad w k))] → W p l e (zRm 1 22) s m ([.ref (zad w k)] : List Value).toArray below meth c H locs 0 0 (MQ below (va_Qi post (zB w) (zA w)) ([.ref (zad w k)] : List Value).toArray s 0 0 (zA w)) (F0 m 0 ls []) := by
    intro H locs ls hW hl
    refine lv_aload_n hx hb dX5_readFigures_0 rfl (lv_at hl 0 rfl) ?_
    refine lv_iconst hx hb dX5_readFigures_1 zc_i2 ?_
    refine zp_Reader_kind X hW h0 zu_117 dX5_readFigures_2 (fun H locs zm1 ezm1 hW => ?_)
    replace h := h zm1 ezm1
    refine lv_aload_n hx hb dX5_readFigures_5 rfl (lv_at hl 0 rfl) ?_
    refine lv_iconst hx hb dX5_readFigures_6 zc_i0 ?_
    refine zp_Reader_value X hW h0 zu_119 dX5_readFigures_7 (fun H locs zm2 ezm2 hW => ?_)
    replace h := h zm2 ezm2
    obtain ⟨n, h⟩ := h
    refine zL_10  _ (fun  zm9 H locs ls hW hl h => ?_) n  zm2 H locs ls hW (lv_sub hl [0] rfl) h
    · skip
      exact zJ_89  zm9 H locs ls hW (lv_sub hl [0] rfl) h
  exact zMain s.heap [] ls hW hl
