def wp_Told_clear (k : Nat) (M : zMem) (Q : zMem → Prop) : Prop :=
  ∀ zm1 : zMem, zm1 = zup M k 0 0 → ∀ zm2 : zMem, zm2 = zup zm1 k 1 0 → ∀ zm3 : zMem, zm3 = zup zm2 k 2 0 → ∀ zm4 : zMem, zm4 = zup zm3 k 3 0 → ∀ zm5 : zMem, zm5 = zup zm4 k 4 0 → ∀ zm6 : zMem, zm6 = zup zm5 k 5 0 → ∀ zm7 : zMem, zm7 = zup zm6 k 6 1 → vp_in 0 6 ∧ ∀ zm8 : zMem, zm8 = zup zm7 (k + 1) (ix 0) 0 → Q zm8
set_option maxHeartbeats 4000000 in
set_option maxRecDepth 20000 in
theorem c_Told_clear {l : Launch} {w : zWd} {k : Nat} {M : zMem} {post : zMem → Prop} (h0 : zI_Told w k) (h : wp_Told_clear k M post) : zMv l ⟨"HandToHand$Told", "clear", "()V"⟩ prog_11_method_2_code 1 none 0 0 w [.ref (zad w k)] M post := by
  refine zMet (by decide) (Nat.le_of_ble_eq_true rfl) ?_
  intro p e s m below meth c X hr hlk hml hW ls hl
  have hx := X.1
  have hb := X.2.1
  have hl : lv_has ls 1 [(0, .ref (zad w k))] := hl
  unfold wp_Told_clear at h
  have zMain : ∀ (H : Heap) (locs : List Loc) (ls : Array Slot), zWo w s.heap M H locs → lv_has ls 1 [(0, .ref (zad w k))] → W p l e (zRm 0 0) s m ([.ref (zad w k)] : List Value).toArray below meth c H locs 0 0 (MQ below (va_Qv post (zB w) (zA w)) ([.ref (zad w k)] : List Value).toArray s 0 0 (zA w)) (F0 m 0 ls []) := by
    intro H locs ls hW hl
    refine lv_aload_n hx hb dX9_clear_0 rfl (lv_at hl 0 rfl) ?_
    refine lv_iconst hx hb dX9_clear_1 zc_i0 ?_
    refine zp_Told_pieces X hW h0 zu_32 dX9_clear_2 (fun H locs zm1 ezm1 hW => ?_)
    replace h := h zm1 ezm1
    refine lv_aload_n hx hb dX9_clear_5 rfl (lv_at hl 0 rfl) ?_
    refine lv_iconst hx hb dX9_clear_6 zc_i0 ?_
    refine zp_Told_hands X hW h0 zu_37 dX9_clear_7 (fun H locs zm2 ezm2 hW => ?_)
    replace h := h zm2 ezm2
    refine lv_aload_n hx hb dX9_clear_10 rfl (lv_at hl 0 rfl) ?_
    refine lv_iconst hx hb dX9_clear_11 zc_i0 ?_
    refine zp_Told_walk X hW h0 zu_42 dX9_clear_12 (fun H locs zm3 ezm3 hW => ?_)
    replace h := h zm3 ezm3
    refine lv_aload_n hx hb dX9_clear_15 rfl (lv_at hl 0 rfl) ?_
    refine lv_iconst hx hb dX9_clear_16 zc_i0 ?_
    refine zp_Told_learn X hW h0 zu_46 dX9_clear_17 (fun H locs zm4 ezm4 hW => ?_)
    replace h := h zm4 ezm4
    refine lv_aload_n hx hb dX9_clear_20 rfl (lv_at hl 0 rfl) ?_
    refine lv_iconst hx hb dX9_clear_21 zc_i0 ?_
    refine zp_Told_kind X hW h0 zu_49 dX9_clear_22 (fun H locs zm5 ezm5 hW => ?_)
    replace h := h zm5 ezm5
    refine lv_aload_n hx hb dX9_clear_25 rfl (lv_at hl 0 rfl) ?_
    refine lv_iconst hx hb dX9_clear_26 zc_i0 ?_
    refine zp_Told_whole X hW h0 zu_52 dX9_clear_27 (fun H locs zm6 ezm6 hW => ?_)
    replace h := h zm6 ezm6
    refine lv_aload_n hx hb dX9_clear_30 rfl (lv_at hl 0 rfl) ?_
    refine lv_iconst hx hb dX9_clear_31 zc_i1 ?_
    refine zp_Told_rowLength X hW h0 zu_55 dX9_clear_32 (fun H locs zm7 ezm7 hW => ?_)
    replace h := h zm7 ezm7
    refine lv_aload_n hx hb dX9_clear_35 rfl (lv_at hl 0 rfl) ?_
    refine zg_Told_row X hW h0 zu_59 dX9_clear_36 ?_
    refine lv_iconst hx hb dX9_clear_39 zc_i0 ?_
    refine lv_iconst hx hb dX9_clear_40 zc_i0 ?_
    obtain ⟨g, h⟩ := h
    refine ziast X hW h0.2.1 g dX9_clear_41 (fun H locs zm8 ezm8 hW => ?_)
    replace h := h zm8 ezm8
    exact zretv X hr hlk hW h dX9_clear_42
  exact zMain s.heap [] ls hW hl
def wpB_Told_fillEnds_2 (k : Nat)   (Q : zMem → Prop) (J : Int32 → zMem → Prop) (x_1 : Int32) (M : zMem) : Prop :=
  ((M k 1) ≤ x_1 → Q M) ∧ (¬ (M k 1) ≤ x_1 → ((M k 4) = 0 → vp_in x_1 5 ∧ ∀ zm1 : zMem, zm1 = zup M (k + 4) (ix x_1) (M k 0) → ∀ zx2 : Int32, zx2 = x_1 + 1 → J zx2 zm1) ∧ (¬ (M k 4) = 0 → (¬ x_1 = ((M k 1) - 1) → ∀ zx3 : Int32, zx3 = x_1 + 1 → J zx3 M) ∧ (x_1 = ((M k 1) - 1) → vp_in x_1 5 ∧ ∀ zm4 : zMem, zm4 = zup M (k + 4) (ix x_1) (M k 0) → ∀ zx5 : Int32, zx5 = x_1 + 1 → J zx5 zm4)))
def wp_Told_fillEnds (k : Nat) (M : zMem) (Q : zMem → Prop) : Prop :=
  ∃ n : Nat, zlp1 (wpB_Told_fillEnds_2 k   Q) n 0 M
set_option maxHeartbeats 4000000 in
set_option maxRecDepth 20000 in
theorem c_Told_fillEnds {l : Launch} {w : zWd} {k : Nat} {M : zMem} {post : zMem → Prop} (h0 : zI_Told w k) (h : wp_Told_fillEnds k M post) : zMv l ⟨"HandToHand$Told", "fillEnds", "()V"⟩ prog_11_method_6_code 2 none 0 0 w [.ref (zad w k)] M post := by
  refine zMet (by decide) (Nat.le_of_ble_eq_true rfl) ?_
  intro p e s m below meth c X hr hlk hml hW ls hl
  have hx := X.1
  have hb := X.2.1
  have hl : lv_has ls 2 [(0, .ref (zad w k))] := hl
  have zL_2 :  ∀ (n : Nat) (x_1 : Int32) (M : zMem) (H : Heap) (locs : List Loc) (ls : Array Slot), zWo w s.heap M H locs → lv_has ls 2 [(0, .ref (zad w k)), (1, .int x_1)] → zlp1 (wpB_Told_fillEnds_2 k   post) n x_1 M → W p l e (zRm 0 0) s m ([.ref (zad w k)] : List Value).toArray below meth c H locs 0 0 (MQ below (va_Qv post (zB w) (zA w)) ([.ref (zad w k)] : List Value).toArray s 0 0 (zA w)) (F0 m 2 ls []) := by
    intro n
    induction n with
    | zero => intro x_1 M H locs ls hW hl h; exact h.elim
    | succ n zJ =>
      intro x_1 M H locs ls hW hl h
      have h : wpB_Told_fillEnds_2 k   post (zlp1 (wpB_Told_fillEnds_2 k   post) n) x_1 M := h
      unfold wpB_Told_fillEnds_2 at h
      refine lv_iload_n hx hb dX9_fillEnds_2 rfl (lv_at hl 1 rfl) ?_
      refine lv_aload_n hx hb dX9_fillEnds_3 rfl (lv_at hl 0 rfl) ?_
      refine zg_Told_hands X hW h0 zu_37 dX9_fillEnds_4 ?_
      refine lv_icmp_ge (tgt := 43) hx hb dX9_fillEnds_7 rfl (fun c => ?_) (fun c => ?_)
      · replace h := h.1 c
        exact zretv X hr hlk hW h dX9_fillEnds_43
      · replace h := h.2 c
        refine lv_aload_n hx hb dX9_fillEnds_10 rfl (lv_at hl 0 rfl) ?_
        refine zg_Told_kind X hW h0 zu_49 dX9_fillEnds_11 ?_
        refine lv_if_eq (tgt := 27) hx hb dX9_fillEnds_14 rfl (fun c => ?_) (fun c => ?_)
        · replace h := h.1 c
          refine lv_aload_n hx hb dX9_fillEnds_27 rfl (lv_at hl 0 rfl) ?_
          refine zg_Told_ends X hW h0 zu_68 dX9_fillEnds_28 ?_
          refine lv_iload_n hx hb dX9_fillEnds_31 rfl (lv_at hl 1 rfl) ?_
          refine lv_aload_n hx hb dX9_fillEnds_32 rfl (lv_at hl 0 rfl) ?_
          refine zg_Told_pieces X hW h0 zu_32 dX9_fillEnds_33 ?_
          obtain ⟨g, h⟩ := h
          refine ziast X hW h0.2.2.2.2 g dX9_fillEnds_36 (fun H locs zm1 ezm1 hW => ?_)
          replace h := h zm1 ezm1
          obtain ⟨zx2, ezx2⟩ : ∃ y : Int32, y = x_1 + 1 := ⟨_, rfl⟩
          replace h := h zx2 ezx2
          refine lv_iinc (v := zx2) (lv' := [(1, .int zx2), (0, .ref (zad w k))]) hx hb dX9_fillEnds_37 hl (k := 1) rfl (by rw [ezx2, zc_i1]) (Nat.le_of_ble_eq_true rfl) rfl (fun ls hl => ?_)
          refine lv_goto (tgt := 2) hx hb dX9_fillEnds_40 rfl ?_
          exact zJ zx2 zm1 H locs ls hW (lv_sub hl [1, 0] rfl) h
        · replace h := h.2 c
          refine lv_iload_n hx hb dX9_fillEnds_17 rfl (lv_at hl 1 rfl) ?_
          refine lv_aload_n hx hb dX9_fillEnds_18 rfl (lv_at hl 0 rfl) ?_
          refine zg_Told_hands X hW h0 zu_37 dX9_fillEnds_19 ?_
          refine lv_iconst hx hb dX9_fillEnds_22 zc_i1 ?_
          refine lv_isub hx hb dX9_fillEnds_23 ?_
          refine lv_icmp_ne (tgt := 37) hx hb dX9_fillEnds_24 rfl (fun c => ?_) (fun c => ?_)
          · replace h := h.1 c
            obtain ⟨zx3, ezx3⟩ : ∃ y : Int32, y = x_1 + 1 := ⟨_, rfl⟩
            replace h := h zx3 ezx3
            refine lv_iinc (v := zx3) (lv' := [(1, .int zx3), (0, .ref (zad w k))]) hx hb dX9_fillEnds_37 hl (k := 1) rfl (by rw [ezx3, zc_i1]) (Nat.le_of_ble_eq_true rfl) rfl (fun ls hl => ?_)
            refine lv_goto (tgt := 2) hx hb dX9_fillEnds_40 rfl ?_
            exact zJ zx3 M H locs ls hW (lv_sub hl [1, 0] rfl) h
          · replace h := h.2 c
            refine lv_aload_n hx hb dX9_fillEnds_27 rfl (lv_at hl 0 rfl) ?_
            refine zg_Told_ends X hW h0 zu_68 dX9_fillEnds_28 ?_
            refine lv_iload_n hx hb dX9_fillEnds_31 rfl (lv_at hl 1 rfl) ?_
            refine lv_aload_n hx hb dX9_fillEnds_32 rfl (lv_at hl 0 rfl) ?_
            refine zg_Told_pieces X hW h0 zu_32 dX9_fillEnds_33 ?_
            obtain ⟨g, h⟩ := h
            refine ziast X hW h0.2.2.2.2 g dX9_fillEnds_36 (fun H locs zm4 ezm4 hW => ?_)
            replace h := h zm4 ezm4
            obtain ⟨zx5, ezx5⟩ : ∃ y : Int32, y = x_1 + 1 := ⟨_, rfl⟩
            replace h := h zx5 ezx5
            refine lv_iinc (v := zx5) (lv' := [(1, .int zx5), (0, .ref (zad w k))]) hx hb dX9_fillEnds_37 hl (k := 1) rfl (by rw [ezx5, zc_i1]) (Nat.le_of_ble_eq_true rfl) rfl (fun ls hl => ?_)
            refine lv_goto (tgt := 2) hx hb dX9_fillEnds_40 rfl ?_
            exact zJ zx5 zm4 H locs ls hW (lv_sub hl [1, 0] rfl) h
  unfold wp_Told_fillEnds at h
  have zMain : ∀ (H : Heap) (locs : List Loc) (ls : Array Slot), zWo w s.heap M H locs → lv_has ls 2 [(0, .ref (zad w k))] → W p l e (zRm 0 0) s m ([.ref (zad w k)] : List Value).toArray below meth c H locs 0 0 (MQ below (va_Qv post (zB w) (zA w)) ([.ref (zad w k)] : List Value).toArray s 0 0 (zA w)) (F0 m 0 ls []) := by
    intro H locs ls hW hl
    refine lv_iconst hx hb dX9_fillEnds_0 zc_i0 ?_
    refine lv_istore_n (lv' := [(1, .int 0), (0, .ref (zad w k))]) hx hb dX9_fillEnds_1 rfl hl (Nat.le_of_ble_eq_true rfl) rfl (fun ls hl => ?_)
    obtain ⟨n, h⟩ := h
    refine zL_2   n 0 M H locs ls hW (lv_sub hl [1, 0] rfl) h
  exact zMain s.heap [] ls hW hl
def wpB_Told_tellAsAtFirst_26 (k : Nat) (x_1 : Int32) (K49 : zMem → Prop) (Q : zMem → Prop) (J : Int32 → zMem → Prop) (x_2 : Int32) (M : zMem) : Prop :=
  (3 ≤ x_2 → K49 M) ∧ (¬ 3 ≤ x_2 → vp_in ((x_2 * 8) + x_1) 24 ∧ ∀ zm7 : zMem, zm7 = zup M (k + 2) (ix ((x_2 * 8) + x_1)) 2 → ∀ zx8 : Int32, zx8 = x_2 + 1 → J zx8 zm7)
def wpB_Told_tellAsAtFirst_51 (k : Nat) (x_1 : Int32) (K79 : zMem → Prop) (Q : zMem → Prop) (J : Int32 → zMem → Prop) (x_2 : Int32) (M : zMem) : Prop :=
  ((M k 1) ≤ x_2 → K79 M) ∧ (¬ (M k 1) ≤ x_2 → vp_in ((x_2 * 8) + x_1) 40 ∧ ∀ zm10 : zMem, zm10 = zup M (k + 3) (ix ((x_2 * 8) + x_1)) (3 - x_2) → ∀ zx11 : Int32, zx11 = x_2 + 1 → J zx11 zm10)
def wpB_Told_tellAsAtFirst_16 (k : Nat)   (Q : zMem → Prop) (J : Int32 → zMem → Prop) (x_1 : Int32) (M : zMem) : Prop :=
  ((M k 0) ≤ x_1 → wp_Told_fillEnds k M (fun zm5 => Q zm5)) ∧ (¬ (M k 0) ≤ x_1 → ∃ n : Nat, zlp1 (wpB_Told_tellAsAtFirst_26 k x_1 (fun (zm9 : zMem) => ∃ n : Nat, zlp1 (wpB_Told_tellAsAtFirst_51 k x_1 (fun (zm12 : zMem) => ∀ zx13 : Int32, zx13 = x_1 + 1 → J zx13 zm12) Q) n 0 zm9) Q) n 0 M)
def wp_Told_tellAsAtFirst (k : Nat) (M : zMem) (Q : zMem → Prop) : Prop :=
  wp_Told_clear k M (fun zm1 => ∀ zm3 : zMem, zm3 = zup zm1 k 0 3 → ∀ zm4 : zMem, zm4 = zup zm3 k 1 3 → ∃ n : Nat, zlp1 (wpB_Told_tellAsAtFirst_16 k   Q) n 0 zm4)
set_option maxHeartbeats 4000000 in
set_option maxRecDepth 20000 in
theorem c_Told_tellAsAtFirst {l : Launch} {w : zWd} {k : Nat} {M : zMem} {post : zMem → Prop} (h0 : zI_Told w k) (h : wp_Told_tellAsAtFirst k M post) : zMv l ⟨"HandToHand$Told", "tellAsAtFirst", "()V"⟩ prog_11_method_3_code 3 none 1 21 w [.ref (zad w k)] M post := by
  refine zMet (by decide) (Nat.le_of_ble_eq_true rfl) ?_
  intro p e s m below meth c X hr hlk hml hW ls hl
  have hx := X.1
  have hb := X.2.1
  have hl : lv_has ls 3 [(0, .ref (zad w k))] := hl
  have zL_26 : ∀ (x_1 : Int32) (K49 : zMem → Prop) (zK49 : ∀ (M : zMem) (H : Heap) (locs : List Loc) (ls : Array Slot), zWo w s.heap M H locs → lv_has ls 3 [(0, .ref (zad w k)), (1, .int x_1)] → K49 M → W p l e (zRm 1 21) s m ([.ref (zad w k)] : List Value).toArray below meth c H locs 0 0 (MQ below (va_Qv post (zB w) (zA w)) ([.ref (zad w k)] : List Value).toArray s 0 0 (zA w)) (F0 m 49 ls [])), ∀ (n : Nat) (x_2 : Int32) (M : zMem) (H : Heap) (locs : List Loc) (ls : Array Slot), zWo w s.heap M H locs → lv_has ls 3 [(0, .ref (zad w k)), (1, .int x_1), (2, .int x_2)] → zlp1 (wpB_Told_tellAsAtFirst_26 k x_1 K49 post) n x_2 M → W p l e (zRm 1 21) s m ([.ref (zad w k)] : List Value).toArray below meth c H locs 0 0 (MQ below (va_Qv post (zB w) (zA w)) ([.ref (zad w k)] : List Value).toArray s 0 0 (zA w)) (F0 m 26 ls []) := by
    intro x_1 K49 zK49 n
    induction n with
    | zero => intro x_2 M H locs ls hW hl h; exact h.elim
    | succ n zJ =>
      intro x_2 M H locs ls hW hl h
      have h : wpB_Told_tellAsAtFirst_26 k x_1 K49 post (zlp1 (wpB_Told_tellAsAtFirst_26 k x_1 K49 post) n) x_2 M := h
      unfold wpB_Told_tellAsAtFirst_26 at h
      refine lv_iload_n hx hb dX9_tellAsAtFirst_26 rfl (lv_at hl 2 rfl) ?_
      refine lv_iconst hx hb dX9_tellAsAtFirst_27 zc_i3 ?_
      refine lv_icmp_ge (tgt := 49) hx hb dX9_tellAsAtFirst_28 rfl (fun c => ?_) (fun c => ?_)
      · replace h := h.1 c
        exact zK49 M H locs ls hW (lv_sub hl [0, 1] rfl) h
      · replace h := h.2 c
        refine lv_aload_n hx hb dX9_tellAsAtFirst_31 rfl (lv_at hl 0 rfl) ?_
        refine zg_Told_units X hW h0 zu_63 dX9_tellAsAtFirst_32 ?_
        refine lv_iload_n hx hb dX9_tellAsAtFirst_35 rfl (lv_at hl 2 rfl) ?_
        refine lv_bipush hx hb dX9_tellAsAtFirst_36 zc_b8 ?_
        refine lv_imul hx hb dX9_tellAsAtFirst_38 ?_
        refine lv_iload_n hx hb dX9_tellAsAtFirst_39 rfl (lv_at hl 1 rfl) ?_
        refine lv_iadd hx hb dX9_tellAsAtFirst_40 ?_
        refine lv_iconst hx hb dX9_tellAsAtFirst_41 zc_i2 ?_
        obtain ⟨g, h⟩ := h
        refine ziast X hW h0.2.2.1 g dX9_tellAsAtFirst_42 (fun H locs zm7 ezm7 hW => ?_)
        replace h := h zm7 ezm7
        obtain ⟨zx8, ezx8⟩ : ∃ y : Int32, y = x_2 + 1 := ⟨_, rfl⟩
        replace h := h zx8 ezx8
        refine lv_iinc (v := zx8) (lv' := [(2, .int zx8), (0, .ref (zad w k)), (1, .int x_1)]) hx hb dX9_tellAsAtFirst_43 hl (k := 2) rfl (by rw [ezx8, zc_i1]) (Nat.le_of_ble_eq_true rfl) rfl (fun ls hl => ?_)
        refine lv_goto (tgt := 26) hx hb dX9_tellAsAtFirst_46 rfl ?_
        exact zJ zx8 zm7 H locs ls hW (lv_sub hl [1, 2, 0] rfl) h
  have zL_51 : ∀ (x_1 : Int32) (K79 : zMem → Prop) (zK79 : ∀ (M : zMem) (H : Heap) (locs : List Loc) (ls : Array Slot), zWo w s.heap M H locs → lv_has ls 3 [(0, .ref (zad w k)), (1, .int x_1)] → K79 M → W p l e (zRm 1 21) s m ([.ref (zad w k)] : List Value).toArray below meth c H locs 0 0 (MQ below (va_Qv post (zB w) (zA w)) ([.ref (zad w k)] : List Value).toArray s 0 0 (zA w)) (F0 m 79 ls [])), ∀ (n : Nat) (x_2 : Int32) (M : zMem) (H : Heap) (locs : List Loc) (ls : Array Slot), zWo w s.heap M H locs → lv_has ls 3 [(0, .ref (zad w k)), (1, .int x_1), (2, .int x_2)] → zlp1 (wpB_Told_tellAsAtFirst_51 k x_1 K79 post) n x_2 M → W p l e (zRm 1 21) s m ([.ref (zad w k)] : List Value).toArray below meth c H locs 0 0 (MQ below (va_Qv post (zB w) (zA w)) ([.ref (zad w k)] : List Value).toArray s 0 0 (zA w)) (F0 m 51 ls []) := by
    intro x_1 K79 zK79 n
    induction n with
    | zero => intro x_2 M H locs ls hW hl h; exact h.elim
    | succ n zJ =>
      intro x_2 M H locs ls hW hl h
      have h : wpB_Told_tellAsAtFirst_51 k x_1 K79 post (zlp1 (wpB_Told_tellAsAtFirst_51 k x_1 K79 post) n) x_2 M := h
      unfold wpB_Told_tellAsAtFirst_51 at h
      refine lv_iload_n hx hb dX9_tellAsAtFirst_51 rfl (lv_at hl 2 rfl) ?_
      refine lv_aload_n hx hb dX9_tellAsAtFirst_52 rfl (lv_at hl 0 rfl) ?_
      refine zg_Told_hands X hW h0 zu_37 dX9_tellAsAtFirst_53 ?_
      refine lv_icmp_ge (tgt := 79) hx hb dX9_tellAsAtFirst_56 rfl (fun c => ?_) (fun c => ?_)
      · replace h := h.1 c
        exact zK79 M H locs ls hW (lv_sub hl [0, 1] rfl) h
      · replace h := h.2 c
        refine lv_aload_n hx hb dX9_tellAsAtFirst_59 rfl (lv_at hl 0 rfl) ?_
        refine zg_Told_paces X hW h0 zu_65 dX9_tellAsAtFirst_60 ?_
        refine lv_iload_n hx hb dX9_tellAsAtFirst_63 rfl (lv_at hl 2 rfl) ?_
        refine lv_bipush hx hb dX9_tellAsAtFirst_64 zc_b8 ?_
        refine lv_imul hx hb dX9_tellAsAtFirst_66 ?_
        refine lv_iload_n hx hb dX9_tellAsAtFirst_67 rfl (lv_at hl 1 rfl) ?_
        refine lv_iadd hx hb dX9_tellAsAtFirst_68 ?_
        refine lv_iconst hx hb dX9_tellAsAtFirst_69 zc_i3 ?_
        refine lv_iload_n hx hb dX9_tellAsAtFirst_70 rfl (lv_at hl 2 rfl) ?_
        refine lv_isub hx hb dX9_tellAsAtFirst_71 ?_
        obtain ⟨g, h⟩ := h
        refine ziast X hW h0.2.2.2.1 g dX9_tellAsAtFirst_72 (fun H locs zm10 ezm10 hW => ?_)
        replace h := h zm10 ezm10
        obtain ⟨zx11, ezx11⟩ : ∃ y : Int32, y = x_2 + 1 := ⟨_, rfl⟩
        replace h := h zx11 ezx11
        refine lv_iinc (v := zx11) (lv' := [(2, .int zx11), (0, .ref (zad w k)), (1, .int x_1)]) hx hb dX9_tellAsAtFirst_73 hl (k := 2) rfl (by rw [ezx11, zc_i1]) (Nat.le_of_ble_eq_true rfl) rfl (fun ls hl => ?_)
        refine lv_goto (tgt := 51) hx hb dX9_tellAsAtFirst_76 rfl ?_
        exact zJ zx11 zm10 H locs ls hW (lv_sub hl [1, 2, 0] rfl) h
  have zL_16 :  ∀ (n : Nat) (x_1 : Int32) (M : zMem) (H : Heap) (locs : List Loc) (ls : Array Slot), zWo w s.heap M H locs → lv_has ls 3 [(0, .ref (zad w k)), (1, .int x_1)] → zlp1 (wpB_Told_tellAsAtFirst_16 k   post) n x_1 M → W p l e (zRm 1 21) s m ([.ref (zad w k)] : List Value).toArray below meth c H locs 0 0 (MQ below (va_Qv post (zB w) (zA w)) ([.ref (zad w k)] : List Value).toArray s 0 0 (zA w)) (F0 m 16 ls []) := by
    intro n
    induction n with
    | zero => intro x_1 M H locs ls hW hl h; exact h.elim
    | succ n zJ =>
      intro x_1 M H locs ls hW hl h
      have h : wpB_Told_tellAsAtFirst_16 k   post (zlp1 (wpB_Told_tellAsAtFirst_16 k   post) n) x_1 M := h
      unfold wpB_Told_tellAsAtFirst_16 at h
      refine lv_iload_n hx hb dX9_tellAsAtFirst_16 rfl (lv_at hl 1 rfl) ?_
      refine lv_aload_n hx hb dX9_tellAsAtFirst_17 rfl (lv_at hl 0 rfl) ?_
      refine zg_Told_pieces X hW h0 zu_32 dX9_tellAsAtFirst_18 ?_
      refine lv_icmp_ge (tgt := 85) hx hb dX9_tellAsAtFirst_21 rfl (fun c => ?_) (fun c => ?_)
      · replace h := h.1 c
        refine lv_aload_n hx hb dX9_tellAsAtFirst_85 rfl (lv_at hl 0 rfl) ?_
        refine zcallv (zrunV (As := []) (rest := []) X hml hl hW h0.1 rfl zk_Told_49 (c_Told_fillEnds h0 h) rfl ⟨Nat.le_of_ble_eq_true rfl, Nat.le_of_ble_eq_true rfl⟩ ⟨Nat.le_refl 0, Nat.le_refl 0⟩ rfl (Nat.le_of_ble_eq_true rfl) dX9_tellAsAtFirst_86) hW (fun zm5 H locs h hW => ?_)
        exact zretv X hr hlk hW h dX9_tellAsAtFirst_89
      · replace h := h.2 c
        refine lv_iconst hx hb dX9_tellAsAtFirst_24 zc_i0 ?_
        refine lv_istore_n (lv' := [(2, .int 0), (0, .ref (zad w k)), (1, .int x_1)]) hx hb dX9_tellAsAtFirst_25 rfl hl (Nat.le_of_ble_eq_true rfl) rfl (fun ls hl => ?_)
        obtain ⟨n, h⟩ := h
        refine zL_26 x_1 _ (fun  zm9 H locs ls hW hl h => ?_) n 0 M H locs ls hW (lv_sub hl [1, 2, 0] rfl) h
        · skip
          refine lv_iconst hx hb dX9_tellAsAtFirst_49 zc_i0 ?_
          refine lv_istore_n (lv' := [(2, .int 0), (0, .ref (zad w k)), (1, .int x_1)]) hx hb dX9_tellAsAtFirst_50 rfl hl (Nat.le_of_ble_eq_true rfl) rfl (fun ls hl => ?_)
          obtain ⟨n, h⟩ := h
          refine zL_51 x_1 _ (fun  zm12 H locs ls hW hl h => ?_) n 0 zm9 H locs ls hW (lv_sub hl [1, 2, 0] rfl) h
          · skip
            obtain ⟨zx13, ezx13⟩ : ∃ y : Int32, y = x_1 + 1 := ⟨_, rfl⟩
            replace h := h zx13 ezx13
            refine lv_iinc (v := zx13) (lv' := [(1, .int zx13), (0, .ref (zad w k))]) hx hb dX9_tellAsAtFirst_79 hl (k := 1) rfl (by rw [ezx13, zc_i1]) (Nat.le_of_ble_eq_true rfl) rfl (fun ls hl => ?_)
            refine lv_goto (tgt := 16) hx hb dX9_tellAsAtFirst_82 rfl ?_
            exact zJ zx13 zm12 H locs ls hW (lv_sub hl [1, 0] rfl) h
  unfold wp_Told_tellAsAtFirst at h
  have zMain : ∀ (H : Heap) (locs : List Loc) (ls : Array Slot), zWo w s.heap M H locs → lv_has ls 3 [(0, .ref (zad w k))] → W p l e (zRm 1 21) s m ([.ref (zad w k)] : List Value).toArray below meth c H locs 0 0 (MQ below (va_Qv post (zB w) (zA w)) ([.ref (zad w k)] : List Value).toArray s 0 0 (zA w)) (F0 m 0 ls []) := by
    intro H locs ls hW hl
    refine lv_aload_n hx hb dX9_tellAsAtFirst_0 rfl (lv_at hl 0 rfl) ?_
    refine zcallv (zrunV (As := []) (rest := []) X hml hl hW h0.1 rfl zk_Told_46 (c_Told_clear h0 h) rfl ⟨Nat.le_of_ble_eq_true rfl, Nat.le_of_ble_eq_true rfl⟩ ⟨Nat.le_refl 0, Nat.le_refl 0⟩ rfl (Nat.le_of_ble_eq_true rfl) dX9_tellAsAtFirst_1) hW (fun zm1 H locs h hW => ?_)
    refine lv_aload_n hx hb dX9_tellAsAtFirst_4 rfl (lv_at hl 0 rfl) ?_
    refine lv_iconst hx hb dX9_tellAsAtFirst_5 zc_i3 ?_
    refine zp_Told_pieces X hW h0 zu_32 dX9_tellAsAtFirst_6 (fun H locs zm3 ezm3 hW => ?_)
    replace h := h zm3 ezm3
    refine lv_aload_n hx hb dX9_tellAsAtFirst_9 rfl (lv_at hl 0 rfl) ?_
    refine lv_iconst hx hb dX9_tellAsAtFirst_10 zc_i3 ?_
    refine zp_Told_hands X hW h0 zu_37 dX9_tellAsAtFirst_11 (fun H locs zm4 ezm4 hW => ?_)
    replace h := h zm4 ezm4
    refine lv_iconst hx hb dX9_tellAsAtFirst_14 zc_i0 ?_
    refine lv_istore_n (lv' := [(1, .int 0), (0, .ref (zad w k))]) hx hb dX9_tellAsAtFirst_15 rfl hl (Nat.le_of_ble_eq_true rfl) rfl (fun ls hl => ?_)
    obtain ⟨n, h⟩ := h
    refine zL_16   n 0 zm4 H locs ls hW (lv_sub hl [1, 0] rfl) h
  exact zMain s.heap [] ls hW hl
def wp_Told_copyFrom (k : Nat) (t1 : Nat) (M : zMem) (Q : zMem → Prop) : Prop :=
  ∀ zm1 : zMem, zm1 = zup M k 0 (M t1 0) → ∀ zm2 : zMem, zm2 = zup zm1 k 1 (zm1 t1 1) → ∀ zm3 : zMem, zm3 = zup zm2 k 2 (zm2 t1 2) → ∀ zm4 : zMem, zm4 = zup zm3 k 3 (zm3 t1 3) → ∀ zm5 : zMem, zm5 = zup zm4 k 4 (zm4 t1 4) → ∀ zm6 : zMem, zm6 = zup zm5 k 5 (zm5 t1 5) → ∀ zm7 : zMem, zm7 = zup zm6 k 6 (zm6 t1 6) → zcpok 0 0 6 6 6 ∧ ∀ zm8 : zMem, zm8 = zcopyM zm7 (t1 + 1) (k + 1) 0 0 6 → zcpok 0 0 24 24 24 ∧ ∀ zm9 : zMem, zm9 = zcopyM zm8 (t1 + 2) (k + 2) 0 0 24 → zcpok 0 0 40 40 40 ∧ ∀ zm10 : zMem, zm10 = zcopyM zm9 (t1 + 3) (k + 3) 0 0 40 → zcpok 0 0 5 5 5 ∧ ∀ zm11 : zMem, zm11 = zcopyM zm10 (t1 + 4) (k + 4) 0 0 5 → Q zm11
set_option maxHeartbeats 4000000 in
set_option maxRecDepth 20000 in
theorem c_Told_copyFrom {l : Launch} {w : zWd} {k : Nat} {t1 : Nat} {M : zMem} {post : zMem → Prop} (h0 : zI_Told w k) (h1 : zI_Told w t1) (h : wp_Told_copyFrom k t1 M post) : zMv l ⟨"HandToHand$Told", "copyFrom", "(LHandToHand$Told;)V"⟩ prog_11_method_4_code 2 none 1 30 w [.ref (zad w k), .ref (zad w t1)] M post := by
  refine zMet (by decide) (Nat.le_of_ble_eq_true rfl) ?_
  intro p e s m below meth c X hr hlk hml hW ls hl
  have hx := X.1
  have hb := X.2.1
  have hl : lv_has ls 2 [(0, .ref (zad w k)), (1, .ref (zad w t1))] := hl
  unfold wp_Told_copyFrom at h
  have zMain : ∀ (H : Heap) (locs : List Loc) (ls : Array Slot), zWo w s.heap M H locs → lv_has ls 2 [(0, .ref (zad w k)), (1, .ref (zad w t1))] → W p l e (zRm 1 30) s m ([.ref (zad w k), .ref (zad w t1)] : List Value).toArray below meth c H locs 0 0 (MQ below (va_Qv post (zB w) (zA w)) ([.ref (zad w k), .ref (zad w t1)] : List Value).toArray s 0 0 (zA w)) (F0 m 0 ls []) := by
    intro H locs ls hW hl
    refine lv_aload_n hx hb dX9_copyFrom_0 rfl (lv_at hl 0 rfl) ?_
    refine lv_aload_n hx hb dX9_copyFrom_1 rfl (lv_at hl 1 rfl) ?_
    refine zg_Told_pieces X hW h1 zu_32 dX9_copyFrom_2 ?_
    refine zp_Told_pieces X hW h0 zu_32 dX9_copyFrom_5 (fun H locs zm1 ezm1 hW => ?_)
    replace h := h zm1 ezm1
    refine lv_aload_n hx hb dX9_copyFrom_8 rfl (lv_at hl 0 rfl) ?_
    refine lv_aload_n hx hb dX9_copyFrom_9 rfl (lv_at hl 1 rfl) ?_
    refine zg_Told_hands X hW h1 zu_37 dX9_copyFrom_10 ?_
    refine zp_Told_hands X hW h0 zu_37 dX9_copyFrom_13 (fun H locs zm2 ezm2 hW => ?_)
    replace h := h zm2 ezm2
    refine lv_aload_n hx hb dX9_copyFrom_16 rfl (lv_at hl 0 rfl) ?_
    refine lv_aload_n hx hb dX9_copyFrom_17 rfl (lv_at hl 1 rfl) ?_
    refine zg_Told_walk X hW h1 zu_42 dX9_copyFrom_18 ?_
    refine zp_Told_walk X hW h0 zu_42 dX9_copyFrom_21 (fun H locs zm3 ezm3 hW => ?_)
    replace h := h zm3 ezm3
    refine lv_aload_n hx hb dX9_copyFrom_24 rfl (lv_at hl 0 rfl) ?_
    refine lv_aload_n hx hb dX9_copyFrom_25 rfl (lv_at hl 1 rfl) ?_
    refine zg_Told_learn X hW h1 zu_46 dX9_copyFrom_26 ?_
    refine zp_Told_learn X hW h0 zu_46 dX9_copyFrom_29 (fun H locs zm4 ezm4 hW => ?_)
    replace h := h zm4 ezm4
    refine lv_aload_n hx hb dX9_copyFrom_32 rfl (lv_at hl 0 rfl) ?_
    refine lv_aload_n hx hb dX9_copyFrom_33 rfl (lv_at hl 1 rfl) ?_
    refine zg_Told_kind X hW h1 zu_49 dX9_copyFrom_34 ?_
    refine zp_Told_kind X hW h0 zu_49 dX9_copyFrom_37 (fun H locs zm5 ezm5 hW => ?_)
    replace h := h zm5 ezm5
    refine lv_aload_n hx hb dX9_copyFrom_40 rfl (lv_at hl 0 rfl) ?_
    refine lv_aload_n hx hb dX9_copyFrom_41 rfl (lv_at hl 1 rfl) ?_
    refine zg_Told_whole X hW h1 zu_52 dX9_copyFrom_42 ?_
    refine zp_Told_whole X hW h0 zu_52 dX9_copyFrom_45 (fun H locs zm6 ezm6 hW => ?_)
    replace h := h zm6 ezm6
    refine lv_aload_n hx hb dX9_copyFrom_48 rfl (lv_at hl 0 rfl) ?_
    refine lv_aload_n hx hb dX9_copyFrom_49 rfl (lv_at hl 1 rfl) ?_
    refine zg_Told_rowLength X hW h1 zu_55 dX9_copyFrom_50 ?_
    refine zp_Told_rowLength X hW h0 zu_55 dX9_copyFrom_53 (fun H locs zm7 ezm7 hW => ?_)
    replace h := h zm7 ezm7
    refine lv_aload_n hx hb dX9_copyFrom_56 rfl (lv_at hl 1 rfl) ?_
    refine zg_Told_row X hW h1 zu_59 dX9_copyFrom_57 ?_
    refine lv_iconst hx hb dX9_copyFrom_60 zc_i0 ?_
    refine lv_aload_n hx hb dX9_copyFrom_61 rfl (lv_at hl 0 rfl) ?_
    refine zg_Told_row X hW h0 zu_59 dX9_copyFrom_62 ?_
    refine lv_iconst hx hb dX9_copyFrom_65 zc_i0 ?_
    refine lv_bipush hx hb dX9_copyFrom_66 zc_b6 ?_
    obtain ⟨g, h⟩ := h
    refine zcopy X hml hl hW h1.2.1 h0.2.1 zu_682 g ⟨Nat.le_of_ble_eq_true rfl, Nat.le_of_ble_eq_true rfl⟩ dX9_copyFrom_68 (fun H locs zm8 ezm8 hW => ?_)
    replace h := h zm8 ezm8
    refine lv_aload_n hx hb dX9_copyFrom_71 rfl (lv_at hl 1 rfl) ?_
    refine zg_Told_units X hW h1 zu_63 dX9_copyFrom_72 ?_
    refine lv_iconst hx hb dX9_copyFrom_75 zc_i0 ?_
    refine lv_aload_n hx hb dX9_copyFrom_76 rfl (lv_at hl 0 rfl) ?_
    refine zg_Told_units X hW h0 zu_63 dX9_copyFrom_77 ?_
    refine lv_iconst hx hb dX9_copyFrom_80 zc_i0 ?_
    refine lv_bipush hx hb dX9_copyFrom_81 zc_b24 ?_
    obtain ⟨g, h⟩ := h
    refine zcopy X hml hl hW h1.2.2.1 h0.2.2.1 zu_682 g ⟨Nat.le_of_ble_eq_true rfl, Nat.le_of_ble_eq_true rfl⟩ dX9_copyFrom_83 (fun H locs zm9 ezm9 hW => ?_)
    replace h := h zm9 ezm9
    refine lv_aload_n hx hb dX9_copyFrom_86 rfl (lv_at hl 1 rfl) ?_
    refine zg_Told_paces X hW h1 zu_65 dX9_copyFrom_87 ?_
    refine lv_iconst hx hb dX9_copyFrom_90 zc_i0 ?_
    refine lv_aload_n hx hb dX9_copyFrom_91 rfl (lv_at hl 0 rfl) ?_
    refine zg_Told_paces X hW h0 zu_65 dX9_copyFrom_92 ?_
    refine lv_iconst hx hb dX9_copyFrom_95 zc_i0 ?_
    refine lv_bipush hx hb dX9_copyFrom_96 zc_b40 ?_
    obtain ⟨g, h⟩ := h
    refine zcopy X hml hl hW h1.2.2.2.1 h0.2.2.2.1 zu_682 g ⟨Nat.le_of_ble_eq_true rfl, Nat.le_of_ble_eq_true rfl⟩ dX9_copyFrom_98 (fun H locs zm10 ezm10 hW => ?_)
    replace h := h zm10 ezm10
    refine lv_aload_n hx hb dX9_copyFrom_101 rfl (lv_at hl 1 rfl) ?_
    refine zg_Told_ends X hW h1 zu_68 dX9_copyFrom_102 ?_
    refine lv_iconst hx hb dX9_copyFrom_105 zc_i0 ?_
    refine lv_aload_n hx hb dX9_copyFrom_106 rfl (lv_at hl 0 rfl) ?_
    refine zg_Told_ends X hW h0 zu_68 dX9_copyFrom_107 ?_
    refine lv_iconst hx hb dX9_copyFrom_110 zc_i0 ?_
    refine lv_iconst hx hb dX9_copyFrom_111 zc_i5 ?_
    obtain ⟨g, h⟩ := h
    refine zcopy X hml hl hW h1.2.2.2.2 h0.2.2.2.2 zu_682 g ⟨Nat.le_of_ble_eq_true rfl, Nat.le_of_ble_eq_true rfl⟩ dX9_copyFrom_112 (fun H locs zm11 ezm11 hW => ?_)
    replace h := h zm11 ezm11
    exact zretv X hr hlk hW h dX9_copyFrom_115
  exact zMain s.heap [] ls hW hl
def wp_Told_copyPacesOf (k : Nat) (t1 : Nat) (a2 : Int32) (a3 : Int32) (M : zMem) (Q : zMem → Prop) : Prop :=
  zcpok (a2 * 8) (a3 * 8) 8 40 40 ∧ ∀ zm1 : zMem, zm1 = zcopyM M (t1 + 3) (k + 3) (a2 * 8) (a3 * 8) 8 → Q zm1
set_option maxHeartbeats 4000000 in
set_option maxRecDepth 20000 in
theorem c_Told_copyPacesOf {l : Launch} {w : zWd} {k : Nat} {t1 : Nat} {a2 : Int32} {a3 : Int32} {M : zMem} {post : zMem → Prop} (h0 : zI_Told w k) (h1 : zI_Told w t1) (h : wp_Told_copyPacesOf k t1 a2 a3 M post) : zMv l ⟨"HandToHand$Told", "copyPacesOf", "(LHandToHand$Told;II)V"⟩ prog_11_method_5_code 4 none 1 30 w [.ref (zad w k), .ref (zad w t1), .int a2, .int a3] M post := by
  refine zMet (by decide) (Nat.le_of_ble_eq_true rfl) ?_
  intro p e s m below meth c X hr hlk hml hW ls hl
  have hx := X.1
  have hb := X.2.1
  have hl : lv_has ls 4 [(0, .ref (zad w k)), (1, .ref (zad w t1)), (2, .int a2), (3, .int a3)] := hl
  unfold wp_Told_copyPacesOf at h
  have zMain : ∀ (H : Heap) (locs : List Loc) (ls : Array Slot), zWo w s.heap M H locs → lv_has ls 4 [(0, .ref (zad w k)), (1, .ref (zad w t1)), (2, .int a2), (3, .int a3)] → W p l e (zRm 1 30) s m ([.ref (zad w k), .ref (zad w t1), .int a2, .int a3] : List Value).toArray below meth c H locs 0 0 (MQ below (va_Qv post (zB w) (zA w)) ([.ref (zad w k), .ref (zad w t1), .int a2, .int a3] : List Value).toArray s 0 0 (zA w)) (F0 m 0 ls []) := by
    intro H locs ls hW hl
    refine lv_aload_n hx hb dX9_copyPacesOf_0 rfl (lv_at hl 1 rfl) ?_
    refine zg_Told_paces X hW h1 zu_65 dX9_copyPacesOf_1 ?_
    refine lv_iload_n hx hb dX9_copyPacesOf_4 rfl (lv_at hl 2 rfl) ?_
    refine lv_bipush hx hb dX9_copyPacesOf_5 zc_b8 ?_
    refine lv_imul hx hb dX9_copyPacesOf_7 ?_
    refine lv_aload_n hx hb dX9_copyPacesOf_8 rfl (lv_at hl 0 rfl) ?_
    refine zg_Told_paces X hW h0 zu_65 dX9_copyPacesOf_9 ?_
    refine lv_iload_n hx hb dX9_copyPacesOf_12 rfl (lv_at hl 3 rfl) ?_
    refine lv_bipush hx hb dX9_copyPacesOf_13 zc_b8 ?_
    refine lv_imul hx hb dX9_copyPacesOf_15 ?_
    refine lv_bipush hx hb dX9_copyPacesOf_16 zc_b8 ?_
    obtain ⟨g, h⟩ := h
    refine zcopy X hml hl hW h1.2.2.2.1 h0.2.2.2.1 zu_682 g ⟨Nat.le_of_ble_eq_true rfl, Nat.le_of_ble_eq_true rfl⟩ dX9_copyPacesOf_18 (fun H locs zm1 ezm1 hW => ?_)
    replace h := h zm1 ezm1
    exact zretv X hr hlk hW h dX9_copyPacesOf_21
  exact zMain s.heap [] ls hW hl
def wpB_Told_dropHand_2 (k : Nat) (a1 : Int32)   (Q : zMem → Prop) (J : Int32 → zMem → Prop) (x_2 : Int32) (M : zMem) : Prop :=
  (((M k 1) - 1) ≤ x_2 → ∀ zm1 : zMem, zm1 = zup M k 1 ((M k 1) - 1) → wp_Told_fillEnds k zm1 (fun zm2 => Q zm2)) ∧ (¬ ((M k 1) - 1) ≤ x_2 → wp_Told_copyPacesOf k k (x_2 + 1) x_2 M (fun zm4 => vp_in (x_2 + 1) 5 ∧ vp_in x_2 5 ∧ ∀ zm6 : zMem, zm6 = zup zm4 (k + 4) (ix x_2) (zm4 (k + 4) (ix (x_2 + 1))) → ∀ zx7 : Int32, zx7 = x_2 + 1 → J zx7 zm6))
def wp_Told_dropHand (k : Nat) (a1 : Int32) (M : zMem) (Q : zMem → Prop) : Prop :=
  ∃ n : Nat, zlp1 (wpB_Told_dropHand_2 k a1   Q) n a1 M
set_option maxHeartbeats 4000000 in
set_option maxRecDepth 20000 in
theorem c_Told_dropHand {l : Launch} {w : zWd} {k : Nat} {a1 : Int32} {M : zMem} {post : zMem → Prop} (h0 : zI_Told w k) (h : wp_Told_dropHand k a1 M post) : zMv l ⟨"HandToHand$Told", "dropHand", "(I)V"⟩ prog_11_method_7_code 3 none 2 53 w [.ref (zad w k), .int a1] M post := by
  refine zMet (by decide) (Nat.le_of_ble_eq_true rfl) ?_
  intro p e s m below meth c X hr hlk hml hW ls hl
  have hx := X.1
  have hb := X.2.1
  have hl : lv_has ls 3 [(0, .ref (zad w k)), (1, .int a1)] := hl
  have zL_2 :  ∀ (n : Nat) (x_2 : Int32) (M : zMem) (H : Heap) (locs : List Loc) (ls : Array Slot), zWo w s.heap M H locs → lv_has ls 3 [(0, .ref (zad w k)), (2, .int x_2)] → zlp1 (wpB_Told_dropHand_2 k a1   post) n x_2 M → W p l e (zRm 2 53) s m ([.ref (zad w k), .int a1] : List Value).toArray below meth c H locs 0 0 (MQ below (va_Qv post (zB w) (zA w)) ([.ref (zad w k), .int a1] : List Value).toArray s 0 0 (zA w)) (F0 m 2 ls []) := by
    intro n
    induction n with
    | zero => intro x_2 M H locs ls hW hl h; exact h.elim
    | succ n zJ =>
      intro x_2 M H locs ls hW hl h
      have h : wpB_Told_dropHand_2 k a1   post (zlp1 (wpB_Told_dropHand_2 k a1   post) n) x_2 M := h
      unfold wpB_Told_dropHand_2 at h
      refine lv_iload_n hx hb dX9_dropHand_2 rfl (lv_at hl 1 rfl) ?_
      refine lv_aload_n hx hb dX9_dropHand_3 rfl (lv_at hl 0 rfl) ?_
      refine zg_Told_hands X hW h0 zu_37 dX9_dropHand_4 ?_
      refine lv_iconst hx hb dX9_dropHand_7 zc_i1 ?_
      refine lv_isub hx hb dX9_dropHand_8 ?_
      refine lv_icmp_ge (tgt := 41) hx hb dX9_dropHand_9 rfl (fun c => ?_) (fun c => ?_)
      · replace h := h.1 c
        refine lv_aload_n hx hb dX9_dropHand_41 rfl (lv_at hl 0 rfl) ?_
        refine lv_dup hx hb dX9_dropHand_42 rfl ?_
        refine zg_Told_hands X hW h0 zu_37 dX9_dropHand_43 ?_
        refine lv_iconst hx hb dX9_dropHand_46 zc_i1 ?_
        refine lv_isub hx hb dX9_dropHand_47 ?_
        refine zp_Told_hands X hW h0 zu_37 dX9_dropHand_48 (fun H locs zm1 ezm1 hW => ?_)
        replace h := h zm1 ezm1
        refine lv_aload_n hx hb dX9_dropHand_51 rfl (lv_at hl 0 rfl) ?_
        refine zcallv (zrunV (As := []) (rest := []) X hml hl hW h0.1 rfl zk_Told_49 (c_Told_fillEnds h0 h) rfl ⟨Nat.le_of_ble_eq_true rfl, Nat.le_of_ble_eq_true rfl⟩ ⟨Nat.le_refl 0, Nat.le_refl 0⟩ rfl (Nat.le_of_ble_eq_true rfl) dX9_dropHand_52) hW (fun zm2 H locs h hW => ?_)
        exact zretv X hr hlk hW h dX9_dropHand_55
      · replace h := h.2 c
        refine lv_aload_n hx hb dX9_dropHand_12 rfl (lv_at hl 0 rfl) ?_
        refine lv_aload_n hx hb dX9_dropHand_13 rfl (lv_at hl 0 rfl) ?_
        refine lv_iload_n hx hb dX9_dropHand_14 rfl (lv_at hl 1 rfl) ?_
        refine lv_iconst hx hb dX9_dropHand_15 zc_i1 ?_
        refine lv_iadd hx hb dX9_dropHand_16 ?_
        refine lv_iload_n hx hb dX9_dropHand_17 rfl (lv_at hl 1 rfl) ?_
        refine zcallv (zrunV (As := [.ref (zad w k), .int (x_2 + 1), .int x_2]) (rest := []) X hml hl hW h0.1 rfl zk_Told_58 (c_Told_copyPacesOf h0 h0 h) rfl ⟨Nat.le_of_ble_eq_true rfl, Nat.le_of_ble_eq_true rfl⟩ ⟨Nat.le_refl 0, Nat.le_refl 0⟩ rfl (Nat.le_of_ble_eq_true rfl) dX9_dropHand_18) hW (fun zm4 H locs h hW => ?_)
        refine lv_aload_n hx hb dX9_dropHand_21 rfl (lv_at hl 0 rfl) ?_
        refine zg_Told_ends X hW h0 zu_68 dX9_dropHand_22 ?_
        refine lv_iload_n hx hb dX9_dropHand_25 rfl (lv_at hl 1 rfl) ?_
        refine lv_aload_n hx hb dX9_dropHand_26 rfl (lv_at hl 0 rfl) ?_
        refine zg_Told_ends X hW h0 zu_68 dX9_dropHand_27 ?_
        refine lv_iload_n hx hb dX9_dropHand_30 rfl (lv_at hl 1 rfl) ?_
        refine lv_iconst hx hb dX9_dropHand_31 zc_i1 ?_
        refine lv_iadd hx hb dX9_dropHand_32 ?_
        obtain ⟨g, h⟩ := h
        refine ziald X hW h0.2.2.2.2 g dX9_dropHand_33 ?_
        obtain ⟨g, h⟩ := h
        refine ziast X hW h0.2.2.2.2 g dX9_dropHand_34 (fun H locs zm6 ezm6 hW => ?_)
        replace h := h zm6 ezm6
        obtain ⟨zx7, ezx7⟩ : ∃ y : Int32, y = x_2 + 1 := ⟨_, rfl⟩
        replace h := h zx7 ezx7
        refine lv_iinc (v := zx7) (lv' := [(2, .int zx7), (0, .ref (zad w k))]) hx hb dX9_dropHand_35 hl (k := 1) rfl (by rw [ezx7, zc_i1]) (Nat.le_of_ble_eq_true rfl) rfl (fun ls hl => ?_)
        refine lv_goto (tgt := 2) hx hb dX9_dropHand_38 rfl ?_
        exact zJ zx7 zm6 H locs ls hW (lv_sub hl [1, 0] rfl) h
  unfold wp_Told_dropHand at h
  have zMain : ∀ (H : Heap) (locs : List Loc) (ls : Array Slot), zWo w s.heap M H locs → lv_has ls 3 [(0, .ref (zad w k)), (1, .int a1)] → W p l e (zRm 2 53) s m ([.ref (zad w k), .int a1] : List Value).toArray below meth c H locs 0 0 (MQ below (va_Qv post (zB w) (zA w)) ([.ref (zad w k), .int a1] : List Value).toArray s 0 0 (zA w)) (F0 m 0 ls []) := by
    intro H locs ls hW hl
    refine lv_iload_n hx hb dX9_dropHand_0 rfl (lv_at hl 1 rfl) ?_
    refine lv_istore_n (lv' := [(2, .int a1), (0, .ref (zad w k)), (1, .int a1)]) hx hb dX9_dropHand_1 rfl hl (Nat.le_of_ble_eq_true rfl) rfl (fun ls hl => ?_)
    obtain ⟨n, h⟩ := h
    refine zL_2   n a1 M H locs ls hW (lv_sub hl [1, 0] rfl) h
  exact zMain s.heap [] ls hW hl
def wpB_Told_moveEnds_7 (k : Nat)  (K35 : Int32 → zMem → Prop) (Q : Int32 → zMem → Prop) (J : Int32 → zMem → Prop) (x_1 : Int32) (M : zMem) : Prop :=
  (x_1 < 0 → Q 0 M) ∧ (¬ x_1 < 0 → ∀ zx2 : Int32, zx2 = (M k 0) - (((M k 1) - 1) - x_1) → vp_in x_1 5 ∧ (zx2 ≤ (M (k + 4) (ix x_1)) → ∀ zx3 : Int32, zx3 = x_1 + (-1) → J zx3 M) ∧ (¬ zx2 ≤ (M (k + 4) (ix x_1)) → K35 x_1 M))
def wpB_Told_moveEnds_49 (k : Nat)   (Q : Int32 → zMem → Prop) (J : Int32 → zMem → Prop) (x_3 : Int32) (M : zMem) : Prop :=
  (((M k 1) - 1) ≤ x_3 → Q 1 M) ∧ (¬ ((M k 1) - 1) ≤ x_3 → vp_in (x_3 - 1) 5 ∧ vp_in x_3 5 ∧ ∀ zm8 : zMem, zm8 = zup M (k + 4) (ix x_3) ((M (k + 4) (ix (x_3 - 1))) + 1) → ∀ zx9 : Int32, zx9 = x_3 + 1 → J zx9 zm8)
def wp_Told_moveEnds (k : Nat) (M : zMem) (Q : Int32 → zMem → Prop) : Prop :=
  ∀ zx1 : Int32, zx1 = (M k 1) - 2 → ∃ n : Nat, zlp1 (wpB_Told_moveEnds_7 k  (fun (zx5 : Int32) (zm4 : zMem) => vp_in zx5 5 ∧ vp_in zx5 5 ∧ ∀ zm6 : zMem, zm6 = zup zm4 (k + 4) (ix zx5) ((zm4 (k + 4) (ix zx5)) + 1) → ∀ zx7 : Int32, zx7 = zx5 + 1 → ∃ n : Nat, zlp1 (wpB_Told_moveEnds_49 k   Q) n zx7 zm6) Q) n zx1 M
set_option maxHeartbeats 4000000 in
set_option maxRecDepth 20000 in
theorem c_Told_moveEnds {l : Launch} {w : zWd} {k : Nat} {M : zMem} {post : Int32 → zMem → Prop} (h0 : zI_Told w k) (h : wp_Told_moveEnds k M post) : zMi l ⟨"HandToHand$Told", "moveEnds", "()Z"⟩ prog_11_method_8_code 4 (Option.some .boolean) 0 0 w [.ref (zad w k)] M post := by
  refine zMet (by decide) (Nat.le_of_ble_eq_true rfl) ?_
  intro p e s m below meth c X hr hlk hml hW ls hl
  have hx := X.1
  have hb := X.2.1
  have hl : lv_has ls 4 [(0, .ref (zad w k))] := hl
  have zL_7 : ∀ (K35 : Int32 → zMem → Prop) (zK35 : ∀ (y_1 : Int32) (M : zMem) (H : Heap) (locs : List Loc) (ls : Array Slot), zWo w s.heap M H locs → lv_has ls 4 [(0, .ref (zad w k)), (1, .int y_1)] → K35 y_1 M → W p l e (zRm 0 0) s m ([.ref (zad w k)] : List Value).toArray below meth c H locs 0 0 (MQ below (va_Qi post (zB w) (zA w)) ([.ref (zad w k)] : List Value).toArray s 0 0 (zA w)) (F0 m 35 ls [])), ∀ (n : Nat) (x_1 : Int32) (M : zMem) (H : Heap) (locs : List Loc) (ls : Array Slot), zWo w s.heap M H locs → lv_has ls 4 [(0, .ref (zad w k)), (1, .int x_1)] → zlp1 (wpB_Told_moveEnds_7 k  K35 post) n x_1 M → W p l e (zRm 0 0) s m ([.ref (zad w k)] : List Value).toArray below meth c H locs 0 0 (MQ below (va_Qi post (zB w) (zA w)) ([.ref (zad w k)] : List Value).toArray s 0 0 (zA w)) (F0 m 7 ls []) := by
    intro K35 zK35 n
    induction n with
    | zero => intro x_1 M H locs ls hW hl h; exact h.elim
    | succ n zJ =>
      intro x_1 M H locs ls hW hl h
      have h : wpB_Told_moveEnds_7 k  K35 post (zlp1 (wpB_Told_moveEnds_7 k  K35 post) n) x_1 M := h
      unfold wpB_Told_moveEnds_7 at h
      refine lv_iload_n hx hb dX9_moveEnds_7 rfl (lv_at hl 1 rfl) ?_
      refine lv_if_lt (tgt := 89) hx hb dX9_moveEnds_8 rfl (fun c => ?_) (fun c => ?_)
      · replace h := h.1 c
        refine lv_iconst hx hb dX9_moveEnds_89 zc_i0 ?_
        exact zretz X hr hlk hW rfl h dX9_moveEnds_90
      · replace h := h.2 c
        refine lv_aload_n hx hb dX9_moveEnds_11 rfl (lv_at hl 0 rfl) ?_
        refine zg_Told_pieces X hW h0 zu_32 dX9_moveEnds_12 ?_
        refine lv_aload_n hx hb dX9_moveEnds_15 rfl (lv_at hl 0 rfl) ?_
        refine zg_Told_hands X hW h0 zu_37 dX9_moveEnds_16 ?_
        refine lv_iconst hx hb dX9_moveEnds_19 zc_i1 ?_
        refine lv_isub hx hb dX9_moveEnds_20 ?_
        refine lv_iload_n hx hb dX9_moveEnds_21 rfl (lv_at hl 1 rfl) ?_
        refine lv_isub hx hb dX9_moveEnds_22 ?_
        refine lv_isub hx hb dX9_moveEnds_23 ?_
        refine lv_topi (fun zx2 ezx2 => ?_)
        replace h := h zx2 ezx2
        refine lv_istore_n (lv' := [(2, .int zx2), (0, .ref (zad w k)), (1, .int x_1)]) hx hb dX9_moveEnds_24 rfl hl (Nat.le_of_ble_eq_true rfl) rfl (fun ls hl => ?_)
        refine lv_aload_n hx hb dX9_moveEnds_25 rfl (lv_at hl 1 rfl) ?_
        refine zg_Told_ends X hW h0 zu_68 dX9_moveEnds_26 ?_
        refine lv_iload_n hx hb dX9_moveEnds_29 rfl (lv_at hl 2 rfl) ?_
        obtain ⟨g, h⟩ := h
        refine ziald X hW h0.2.2.2.2 g dX9_moveEnds_30 ?_
        refine lv_iload_n hx hb dX9_moveEnds_31 rfl (lv_at hl 0 rfl) ?_
        refine lv_icmp_ge (tgt := 83) hx hb dX9_moveEnds_32 rfl (fun c => ?_) (fun c => ?_)
        · replace h := h.1 c
          obtain ⟨zx3, ezx3⟩ : ∃ y : Int32, y = x_1 + (-1) := ⟨_, rfl⟩
          replace h := h zx3 ezx3
          refine lv_iinc (v := zx3) (lv' := [(1, .int zx3), (2, .int zx2), (0, .ref (zad w k))]) hx hb dX9_moveEnds_83 hl (k := 2) rfl (by rw [ezx3, zc_im1]) (Nat.le_of_ble_eq_true rfl) rfl (fun ls hl => ?_)
          refine lv_goto (tgt := 7) hx hb dX9_moveEnds_86 rfl ?_
          exact zJ zx3 M H locs ls hW (lv_sub hl [2, 0] rfl) h
        · replace h := h.2 c
          exact zK35 x_1 M H locs ls hW (lv_sub hl [1, 2] rfl) h
  have zL_49 :  ∀ (n : Nat) (x_3 : Int32) (M : zMem) (H : Heap) (locs : List Loc) (ls : Array Slot), zWo w s.heap M H locs → lv_has ls 4 [(0, .ref (zad w k)), (3, .int x_3)] → zlp1 (wpB_Told_moveEnds_49 k   post) n x_3 M → W p l e (zRm 0 0) s m ([.ref (zad w k)] : List Value).toArray below meth c H locs 0 0 (MQ below (va_Qi post (zB w) (zA w)) ([.ref (zad w k)] : List Value).toArray s 0 0 (zA w)) (F0 m 49 ls []) := by
    intro n
    induction n with
    | zero => intro x_3 M H locs ls hW hl h; exact h.elim
    | succ n zJ =>
      intro x_3 M H locs ls hW hl h
      have h : wpB_Told_moveEnds_49 k   post (zlp1 (wpB_Told_moveEnds_49 k   post) n) x_3 M := h
      unfold wpB_Told_moveEnds_49 at h
      refine lv_iload_n hx hb dX9_moveEnds_49 rfl (lv_at hl 1 rfl) ?_
      refine lv_aload_n hx hb dX9_moveEnds_50 rfl (lv_at hl 0 rfl) ?_
      refine zg_Told_hands X hW h0 zu_37 dX9_moveEnds_51 ?_
      refine lv_iconst hx hb dX9_moveEnds_54 zc_i1 ?_
      refine lv_isub hx hb dX9_moveEnds_55 ?_
      refine lv_icmp_ge (tgt := 81) hx hb dX9_moveEnds_56 rfl (fun c => ?_) (fun c => ?_)
      · replace h := h.1 c
        refine lv_iconst hx hb dX9_moveEnds_81 zc_i1 ?_
        exact zretz X hr hlk hW rfl h dX9_moveEnds_82
      · replace h := h.2 c
        refine lv_aload_n hx hb dX9_moveEnds_59 rfl (lv_at hl 0 rfl) ?_
        refine zg_Told_ends X hW h0 zu_68 dX9_moveEnds_60 ?_
        refine lv_iload_n hx hb dX9_moveEnds_63 rfl (lv_at hl 1 rfl) ?_
        refine lv_aload_n hx hb dX9_moveEnds_64 rfl (lv_at hl 0 rfl) ?_
        refine zg_Told_ends X hW h0 zu_68 dX9_moveEnds_65 ?_
        refine lv_iload_n hx hb dX9_moveEnds_68 rfl (lv_at hl 1 rfl) ?_
        refine lv_iconst hx hb dX9_moveEnds_69 zc_i1 ?_
        refine lv_isub hx hb dX9_moveEnds_70 ?_
        obtain ⟨g, h⟩ := h
        refine ziald X hW h0.2.2.2.2 g dX9_moveEnds_71 ?_
        refine lv_iconst hx hb dX9_moveEnds_72 zc_i1 ?_
        refine lv_iadd hx hb dX9_moveEnds_73 ?_
        obtain ⟨g, h⟩ := h
        refine ziast X hW h0.2.2.2.2 g dX9_moveEnds_74 (fun H locs zm8 ezm8 hW => ?_)
        replace h := h zm8 ezm8
        obtain ⟨zx9, ezx9⟩ : ∃ y : Int32, y = x_3 + 1 := ⟨_, rfl⟩
        replace h := h zx9 ezx9
        refine lv_iinc (v := zx9) (lv' := [(3, .int zx9), (0, .ref (zad w k))]) hx hb dX9_moveEnds_75 hl (k := 1) rfl (by rw [ezx9, zc_i1]) (Nat.le_of_ble_eq_true rfl) rfl (fun ls hl => ?_)
        refine lv_goto (tgt := 49) hx hb dX9_moveEnds_78 rfl ?_
        exact zJ zx9 zm8 H locs ls hW (lv_sub hl [1, 0] rfl) h
  unfold wp_Told_moveEnds at h
  have zMain : ∀ (H : Heap) (locs : List Loc) (ls : Array Slot), zWo w s.heap M H locs → lv_has ls 4 [(0, .ref (zad w k))] → W p l e (zRm 0 0) s m ([.ref (zad w k)] : List Value).toArray below meth c H locs 0 0 (MQ below (va_Qi post (zB w) (zA w)) ([.ref (zad w k)] : List Value).toArray s 0 0 (zA w)) (F0 m 0 ls []) := by
    intro H locs ls hW hl
    refine lv_aload_n hx hb dX9_moveEnds_0 rfl (lv_at hl 0 rfl) ?_
    refine zg_Told_hands X hW h0 zu_37 dX9_moveEnds_1 ?_
    refine lv_iconst hx hb dX9_moveEnds_4 zc_i2 ?_
    refine lv_isub hx hb dX9_moveEnds_5 ?_
    refine lv_topi (fun zx1 ezx1 => ?_)
    replace h := h zx1 ezx1
    refine lv_istore_n (lv' := [(1, .int zx1), (0, .ref (zad w k))]) hx hb dX9_moveEnds_6 rfl hl (Nat.le_of_ble_eq_true rfl) rfl (fun ls hl => ?_)
    obtain ⟨n, h⟩ := h
    refine zL_7  _ (fun zx5 zm4 H locs ls hW hl h => ?_) n zx1 M H locs ls hW (lv_sub hl [1, 0] rfl) h
    · skip
      refine lv_aload_n hx hb dX9_moveEnds_35 rfl (lv_at hl 0 rfl) ?_
      refine zg_Told_ends X hW h0 zu_68 dX9_moveEnds_36 ?_
      refine lv_iload_n hx hb dX9_moveEnds_39 rfl (lv_at hl 1 rfl) ?_
      refine lv_dup2_11 hx hb dX9_moveEnds_40 rfl rfl ?_
      obtain ⟨g, h⟩ := h
      refine ziald X hW h0.2.2.2.2 g dX9_moveEnds_41 ?_
      refine lv_iconst hx hb dX9_moveEnds_42 zc_i1 ?_
      refine lv_iadd hx hb dX9_moveEnds_43 ?_
      obtain ⟨g, h⟩ := h
      refine ziast X hW h0.2.2.2.2 g dX9_moveEnds_44 (fun H locs zm6 ezm6 hW => ?_)
      replace h := h zm6 ezm6
      refine lv_iload_n hx hb dX9_moveEnds_45 rfl (lv_at hl 1 rfl) ?_
      refine lv_iconst hx hb dX9_moveEnds_46 zc_i1 ?_
      refine lv_iadd hx hb dX9_moveEnds_47 ?_
      refine lv_topi (fun zx7 ezx7 => ?_)
      replace h := h zx7 ezx7
      refine lv_istore_n (lv' := [(3, .int zx7), (0, .ref (zad w k)), (1, .int zx5)]) hx hb dX9_moveEnds_48 rfl hl (Nat.le_of_ble_eq_true rfl) rfl (fun ls hl => ?_)
      obtain ⟨n, h⟩ := h
      refine zL_49   n zx7 zm6 H locs ls hW (lv_sub hl [1, 0] rfl) h
  exact zMain s.heap [] ls hW hl
def wp_Told_unitsOf (k : Nat) (a1 : Int32) (a2 : Int32) (M : zMem) (Q : Int32 → zMem → Prop) : Prop :=
  vp_in ((a1 * 8) + a2) 24 ∧ Q (M (k + 2) (ix ((a1 * 8) + a2))) M
set_option maxHeartbeats 4000000 in
set_option maxRecDepth 20000 in
theorem c_Told_unitsOf {l : Launch} {w : zWd} {k : Nat} {a1 : Int32} {a2 : Int32} {M : zMem} {post : Int32 → zMem → Prop} (h0 : zI_Told w k) (h : wp_Told_unitsOf k a1 a2 M post) : zMi l ⟨"HandToHand$Told", "unitsOf", "(II)I"⟩ prog_11_method_9_code 3 (Option.some .int) 0 0 w [.ref (zad w k), .int a1, .int a2] M post := by
  refine zMet (by decide) (Nat.le_of_ble_eq_true rfl) ?_
  intro p e s m below meth c X hr hlk hml hW ls hl
  have hx := X.1
  have hb := X.2.1
  have hl : lv_has ls 3 [(0, .ref (zad w k)), (1, .int a1), (2, .int a2)] := hl
  unfold wp_Told_unitsOf at h
  have zMain : ∀ (H : Heap) (locs : List Loc) (ls : Array Slot), zWo w s.heap M H locs → lv_has ls 3 [(0, .ref (zad w k)), (1, .int a1), (2, .int a2)] → W p l e (zRm 0 0) s m ([.ref (zad w k), .int a1, .int a2] : List Value).toArray below meth c H locs 0 0 (MQ below (va_Qi post (zB w) (zA w)) ([.ref (zad w k), .int a1, .int a2] : List Value).toArray s 0 0 (zA w)) (F0 m 0 ls []) := by
    intro H locs ls hW hl
    refine lv_aload_n hx hb dX9_unitsOf_0 rfl (lv_at hl 0 rfl) ?_
    refine zg_Told_units X hW h0 zu_63 dX9_unitsOf_1 ?_
    refine lv_iload_n hx hb dX9_unitsOf_4 rfl (lv_at hl 1 rfl) ?_
    refine lv_bipush hx hb dX9_unitsOf_5 zc_b8 ?_
    refine lv_imul hx hb dX9_unitsOf_7 ?_
    refine lv_iload_n hx hb dX9_unitsOf_8 rfl (lv_at hl 2 rfl) ?_
    refine lv_iadd hx hb dX9_unitsOf_9 ?_
    obtain ⟨g, h⟩ := h
    refine ziald X hW h0.2.2.1 g dX9_unitsOf_10 ?_
    exact zreti X hr hlk hW h dX9_unitsOf_11
  exact zMain s.heap [] ls hW hl
def wp_Told_paceOf (k : Nat) (a1 : Int32) (a2 : Int32) (M : zMem) (Q : Int32 → zMem → Prop) : Prop :=
  vp_in ((a1 * 8) + a2) 40 ∧ Q (M (k + 3) (ix ((a1 * 8) + a2))) M
set_option maxHeartbeats 4000000 in
set_option maxRecDepth 20000 in
theorem c_Told_paceOf {l : Launch} {w : zWd} {k : Nat} {a1 : Int32} {a2 : Int32} {M : zMem} {post : Int32 → zMem → Prop} (h0 : zI_Told w k) (h : wp_Told_paceOf k a1 a2 M post) : zMi l ⟨"HandToHand$Told", "paceOf", "(II)I"⟩ prog_11_method_10_code 3 (Option.some .int) 0 0 w [.ref (zad w k), .int a1, .int a2] M post := by
  refine zMet (by decide) (Nat.le_of_ble_eq_true rfl) ?_
  intro p e s m below meth c X hr hlk hml hW ls hl
  have hx := X.1
  have hb := X.2.1
  have hl : lv_has ls 3 [(0, .ref (zad w k)), (1, .int a1), (2, .int a2)] := hl
  unfold wp_Told_paceOf at h
  have zMain : ∀ (H : Heap) (locs : List Loc) (ls : Array Slot), zWo w s.heap M H locs → lv_has ls 3 [(0, .ref (zad w k)), (1, .int a1), (2, .int a2)] → W p l e (zRm 0 0) s m ([.ref (zad w k), .int a1, .int a2] : List Value).toArray below meth c H locs 0 0 (MQ below (va_Qi post (zB w) (zA w)) ([.ref (zad w k), .int a1, .int a2] : List Value).toArray s 0 0 (zA w)) (F0 m 0 ls []) := by
    intro H locs ls hW hl
    refine lv_aload_n hx hb dX9_paceOf_0 rfl (lv_at hl 0 rfl) ?_
    refine zg_Told_paces X hW h0 zu_65 dX9_paceOf_1 ?_
    refine lv_iload_n hx hb dX9_paceOf_4 rfl (lv_at hl 1 rfl) ?_
    refine lv_bipush hx hb dX9_paceOf_5 zc_b8 ?_
    refine lv_imul hx hb dX9_paceOf_7 ?_
    refine lv_iload_n hx hb dX9_paceOf_8 rfl (lv_at hl 2 rfl) ?_
    refine lv_iadd hx hb dX9_paceOf_9 ?_
    obtain ⟨g, h⟩ := h
    refine ziald X hW h0.2.2.2.1 g dX9_paceOf_10 ?_
    exact zreti X hr hlk hW h dX9_paceOf_11
  exact zMain s.heap [] ls hW hl
def wpB_Told_pieceFrom_2 (k : Nat) (a1 : Int32) (a2 : Int32)   (Q : Int32 → zMem → Prop) (J : Int32 → zMem → Prop) (x_3 : Int32) (M : zMem) : Prop :=
  ((M k 0) ≤ x_3 → Q (M k 0) M) ∧ (¬ (M k 0) ≤ x_3 → vp_in ((a2 * 8) + x_3) 24 ∧ ((M (k + 2) (ix ((a2 * 8) + x_3))) ≤ 0 → ∀ zx1 : Int32, zx1 = x_3 + 1 → J zx1 M) ∧ (¬ (M (k + 2) (ix ((a2 * 8) + x_3))) ≤ 0 → Q x_3 M))
def wp_Told_pieceFrom (k : Nat) (a1 : Int32) (a2 : Int32) (M : zMem) (Q : Int32 → zMem → Prop) : Prop :=
  ∃ n : Nat, zlp1 (wpB_Told_pieceFrom_2 k a1 a2   Q) n a1 M
set_option maxHeartbeats 4000000 in
set_option maxRecDepth 20000 in
theorem c_Told_pieceFrom {l : Launch} {w : zWd} {k : Nat} {a1 : Int32} {a2 : Int32} {M : zMem} {post : Int32 → zMem → Prop} (h0 : zI_Told w k) (h : wp_Told_pieceFrom k a1 a2 M post) : zMi l ⟨"HandToHand$Told", "pieceFrom", "(II)I"⟩ prog_11_method_11_code 4 (Option.some .int) 0 0 w [.ref (zad w k), .int a1, .int a2] M post := by
  refine zMet (by decide) (Nat.le_of_ble_eq_true rfl) ?_
  intro p e s m below meth c X hr hlk hml hW ls hl
  have hx := X.1
  have hb := X.2.1
  have hl : lv_has ls 4 [(0, .ref (zad w k)), (1, .int a1), (2, .int a2)] := hl
  have zL_2 :  ∀ (n : Nat) (x_3 : Int32) (M : zMem) (H : Heap) (locs : List Loc) (ls : Array Slot), zWo w s.heap M H locs → lv_has ls 4 [(0, .ref (zad w k)), (2, .int a2), (3, .int x_3)] → zlp1 (wpB_Told_pieceFrom_2 k a1 a2   post) n x_3 M → W p l e (zRm 0 0) s m ([.ref (zad w k), .int a1, .int a2] : List Value).toArray below meth c H locs 0 0 (MQ below (va_Qi post (zB w) (zA w)) ([.ref (zad w k), .int a1, .int a2] : List Value).toArray s 0 0 (zA w)) (F0 m 2 ls []) := by
    intro n
    induction n with
    | zero => intro x_3 M H locs ls hW hl h; exact h.elim
    | succ n zJ =>
      intro x_3 M H locs ls hW hl h
      have h : wpB_Told_pieceFrom_2 k a1 a2   post (zlp1 (wpB_Told_pieceFrom_2 k a1 a2   post) n) x_3 M := h
      unfold wpB_Told_pieceFrom_2 at h
      refine lv_iload_n hx hb dX9_pieceFrom_2 rfl (lv_at hl 2 rfl) ?_
      refine lv_aload_n hx hb dX9_pieceFrom_3 rfl (lv_at hl 0 rfl) ?_
      refine zg_Told_pieces X hW h0 zu_32 dX9_pieceFrom_4 ?_
      refine lv_icmp_ge (tgt := 32) hx hb dX9_pieceFrom_7 rfl (fun c => ?_) (fun c => ?_)
      · replace h := h.1 c
        refine lv_aload_n hx hb dX9_pieceFrom_32 rfl (lv_at hl 0 rfl) ?_
        refine zg_Told_pieces X hW h0 zu_32 dX9_pieceFrom_33 ?_
        exact zreti X hr hlk hW h dX9_pieceFrom_36
      · replace h := h.2 c
        refine lv_aload_n hx hb dX9_pieceFrom_10 rfl (lv_at hl 0 rfl) ?_
        refine zg_Told_units X hW h0 zu_63 dX9_pieceFrom_11 ?_
        refine lv_iload_n hx hb dX9_pieceFrom_14 rfl (lv_at hl 1 rfl) ?_
        refine lv_bipush hx hb dX9_pieceFrom_15 zc_b8 ?_
        refine lv_imul hx hb dX9_pieceFrom_17 ?_
        refine lv_iload_n hx hb dX9_pieceFrom_18 rfl (lv_at hl 2 rfl) ?_
        refine lv_iadd hx hb dX9_pieceFrom_19 ?_
        obtain ⟨g, h⟩ := h
        refine ziald X hW h0.2.2.1 g dX9_pieceFrom_20 ?_
        refine lv_if_le (tgt := 26) hx hb dX9_pieceFrom_21 rfl (fun c => ?_) (fun c => ?_)
        · replace h := h.1 c
          obtain ⟨zx1, ezx1⟩ : ∃ y : Int32, y = x_3 + 1 := ⟨_, rfl⟩
          replace h := h zx1 ezx1
          refine lv_iinc (v := zx1) (lv' := [(3, .int zx1), (0, .ref (zad w k)), (2, .int a2)]) hx hb dX9_pieceFrom_26 hl (k := 2) rfl (by rw [ezx1, zc_i1]) (Nat.le_of_ble_eq_true rfl) rfl (fun ls hl => ?_)
          refine lv_goto (tgt := 2) hx hb dX9_pieceFrom_29 rfl ?_
          exact zJ zx1 M H locs ls hW (lv_sub hl [1, 2, 0] rfl) h
        · replace h := h.2 c
          refine lv_iload_n hx hb dX9_pieceFrom_24 rfl (lv_at hl 2 rfl) ?_
          exact zreti X hr hlk hW h dX9_pieceFrom_25
  unfold wp_Told_pieceFrom at h
  have zMain : ∀ (H : Heap) (locs : List Loc) (ls : Array Slot), zWo w s.heap M H locs → lv_has ls 4 [(0, .ref (zad w k)), (1, .int a1), (2, .int a2)] → W p l e (zRm 0 0) s m ([.ref (zad w k), .int a1, .int a2] : List Value).toArray below meth c H locs 0 0 (MQ below (va_Qi post (zB w) (zA w)) ([.ref (zad w k), .int a1, .int a2] : List Value).toArray s 0 0 (zA w)) (F0 m 0 ls []) := by
    intro H locs ls hW hl
    refine lv_iload_n hx hb dX9_pieceFrom_0 rfl (lv_at hl 1 rfl) ?_
    refine lv_istore_n (lv' := [(3, .int a1), (0, .ref (zad w k)), (1, .int a1), (2, .int a2)]) hx hb dX9_pieceFrom_1 rfl hl (Nat.le_of_ble_eq_true rfl) rfl (fun ls hl => ?_)
    obtain ⟨n, h⟩ := h
    refine zL_2   n a1 M H locs ls hW (lv_sub hl [1, 3, 0] rfl) h
  exact zMain s.heap [] ls hW hl
def wp_Told_mayBegin (k : Nat) (a1 : Int32) (a2 : Int32) (M : zMem) (Q : Int32 → zMem → Prop) : Prop :=
  vp_in a1 5 ∧ ((M (k + 4) (ix a1)) ≤ a2 → Q 0 M) ∧ (¬ (M (k + 4) (ix a1)) ≤ a2 → Q 1 M)
set_option maxHeartbeats 4000000 in
set_option maxRecDepth 20000 in
theorem c_Told_mayBegin {l : Launch} {w : zWd} {k : Nat} {a1 : Int32} {a2 : Int32} {M : zMem} {post : Int32 → zMem → Prop} (h0 : zI_Told w k) (h : wp_Told_mayBegin k a1 a2 M post) : zMi l ⟨"HandToHand$Told", "mayBegin", "(II)Z"⟩ prog_11_method_12_code 3 (Option.some .boolean) 0 0 w [.ref (zad w k), .int a1, .int a2] M post := by
  refine zMet (by decide) (Nat.le_of_ble_eq_true rfl) ?_
  intro p e s m below meth c X hr hlk hml hW ls hl
  have hx := X.1
  have hb := X.2.1
  have hl : lv_has ls 3 [(0, .ref (zad w k)), (1, .int a1), (2, .int a2)] := hl
  unfold wp_Told_mayBegin at h
  have zMain : ∀ (H : Heap) (locs : List Loc) (ls : Array Slot), zWo w s.heap M H locs → lv_has ls 3 [(0, .ref (zad w k)), (1, .int a1), (2, .int a2)] → W p l e (zRm 0 0) s m ([.ref (zad w k), .int a1, .int a2] : List Value).toArray below meth c H locs 0 0 (MQ below (va_Qi post (zB w) (zA w)) ([.ref (zad w k), .int a1, .int a2] : List Value).toArray s 0 0 (zA w)) (F0 m 0 ls []) := by
    intro H locs ls hW hl
    refine lv_iload_n hx hb dX9_mayBegin_0 rfl (lv_at hl 2 rfl) ?_
    refine lv_aload_n hx hb dX9_mayBegin_1 rfl (lv_at hl 0 rfl) ?_
    refine zg_Told_ends X hW h0 zu_68 dX9_mayBegin_2 ?_
    refine lv_iload_n hx hb dX9_mayBegin_5 rfl (lv_at hl 1 rfl) ?_
    obtain ⟨g, h⟩ := h
    refine ziald X hW h0.2.2.2.2 g dX9_mayBegin_6 ?_
    refine lv_icmp_ge (tgt := 14) hx hb dX9_mayBegin_7 rfl (fun c => ?_) (fun c => ?_)
    · replace h := h.1 c
      refine lv_iconst hx hb dX9_mayBegin_14 zc_i0 ?_
      exact zretz X hr hlk hW rfl h dX9_mayBegin_15
    · replace h := h.2 c
      refine lv_iconst hx hb dX9_mayBegin_10 zc_i1 ?_
      refine lv_goto (tgt := 15) hx hb dX9_mayBegin_11 rfl ?_
      exact zretz X hr hlk hW rfl h dX9_mayBegin_15
  exact zMain s.heap [] ls hW hl
def wpJ_Told_mayBeLeft_18 (k : Nat) (a1 : Int32) (a2 : Int32) (a3 : Int32)  (Q : Int32 → zMem → Prop)   (M : zMem) : Prop :=
  (¬ (M k 4) = 2 → Q 1 M) ∧ ((M k 4) = 2 → vp_in a1 5 ∧ (a2 < (M (k + 4) (ix a1)) → Q 0 M) ∧ (¬ a2 < (M (k + 4) (ix a1)) → Q 1 M))
def wp_Told_mayBeLeft (k : Nat) (a1 : Int32) (a2 : Int32) (a3 : Int32) (M : zMem) (Q : Int32 → zMem → Prop) : Prop :=
  (a3 ≤ 0 → wpJ_Told_mayBeLeft_18 k a1 a2 a3 Q M) ∧ (¬ a3 ≤ 0 → (¬ (((M k 5) >>> (a2 &&& 31)) &&& 1) = 1 → wpJ_Told_mayBeLeft_18 k a1 a2 a3 Q M) ∧ ((((M k 5) >>> (a2 &&& 31)) &&& 1) = 1 → Q 0 M))
set_option maxHeartbeats 4000000 in
set_option maxRecDepth 20000 in
theorem c_Told_mayBeLeft {l : Launch} {w : zWd} {k : Nat} {a1 : Int32} {a2 : Int32} {a3 : Int32} {M : zMem} {post : Int32 → zMem → Prop} (h0 : zI_Told w k) (h : wp_Told_mayBeLeft k a1 a2 a3 M post) : zMi l ⟨"HandToHand$Told", "mayBeLeft", "(III)Z"⟩ prog_11_method_13_code 4 (Option.some .boolean) 0 0 w [.ref (zad w k), .int a1, .int a2, .int a3] M post := by
  refine zMet (by decide) (Nat.le_of_ble_eq_true rfl) ?_
  intro p e s m below meth c X hr hlk hml hW ls hl
  have hx := X.1
  have hb := X.2.1
  have hl : lv_has ls 4 [(0, .ref (zad w k)), (1, .int a1), (2, .int a2), (3, .int a3)] := hl
  have zJ_18 : ∀ (M : zMem) (H : Heap) (locs : List Loc) (ls : Array Slot), zWo w s.heap M H locs → lv_has ls 4 [(0, .ref (zad w k)), (1, .int a1), (2, .int a2)] → wpJ_Told_mayBeLeft_18 k a1 a2 a3 post M → W p l e (zRm 0 0) s m ([.ref (zad w k), .int a1, .int a2, .int a3] : List Value).toArray below meth c H locs 0 0 (MQ below (va_Qi post (zB w) (zA w)) ([.ref (zad w k), .int a1, .int a2, .int a3] : List Value).toArray s 0 0 (zA w)) (F0 m 18 ls []) := by
    intro  M H locs ls hW hl h
    unfold wpJ_Told_mayBeLeft_18 at h
    refine lv_aload_n hx hb dX9_mayBeLeft_18 rfl (lv_at hl 0 rfl) ?_
    refine zg_Told_kind X hW h0 zu_49 dX9_mayBeLeft_19 ?_
    refine lv_iconst hx hb dX9_mayBeLeft_22 zc_i2 ?_
    refine lv_icmp_ne (tgt := 36) hx hb dX9_mayBeLeft_23 rfl (fun c => ?_) (fun c => ?_)
    · replace h := h.1 c
      refine lv_iconst hx hb dX9_mayBeLeft_36 zc_i1 ?_
      refine lv_goto (tgt := 41) hx hb dX9_mayBeLeft_37 rfl ?_
      exact zretz X hr hlk hW rfl h dX9_mayBeLeft_41
    · replace h := h.2 c
      refine lv_iload_n hx hb dX9_mayBeLeft_26 rfl (lv_at hl 2 rfl) ?_
      refine lv_aload_n hx hb dX9_mayBeLeft_27 rfl (lv_at hl 0 rfl) ?_
      refine zg_Told_ends X hW h0 zu_68 dX9_mayBeLeft_28 ?_
      refine lv_iload_n hx hb dX9_mayBeLeft_31 rfl (lv_at hl 1 rfl) ?_
      obtain ⟨g, h⟩ := h
      refine ziald X hW h0.2.2.2.2 g dX9_mayBeLeft_32 ?_
      refine lv_icmp_lt (tgt := 40) hx hb dX9_mayBeLeft_33 rfl (fun c => ?_) (fun c => ?_)
      · replace h := h.1 c
        refine lv_iconst hx hb dX9_mayBeLeft_40 zc_i0 ?_
        exact zretz X hr hlk hW rfl h dX9_mayBeLeft_41
      · replace h := h.2 c
        refine lv_iconst hx hb dX9_mayBeLeft_36 zc_i1 ?_
        refine lv_goto (tgt := 41) hx hb dX9_mayBeLeft_37 rfl ?_
        exact zretz X hr hlk hW rfl h dX9_mayBeLeft_41
  unfold wp_Told_mayBeLeft at h
  have zMain : ∀ (H : Heap) (locs : List Loc) (ls : Array Slot), zWo w s.heap M H locs → lv_has ls 4 [(0, .ref (zad w k)), (1, .int a1), (2, .int a2), (3, .int a3)] → W p l e (zRm 0 0) s m ([.ref (zad w k), .int a1, .int a2, .int a3] : List Value).toArray below meth c H locs 0 0 (MQ below (va_Qi post (zB w) (zA w)) ([.ref (zad w k), .int a1, .int a2, .int a3] : List Value).toArray s 0 0 (zA w)) (F0 m 0 ls []) := by
    intro H locs ls hW hl
    refine lv_iload_n hx hb dX9_mayBeLeft_0 rfl (lv_at hl 3 rfl) ?_
    refine lv_if_le (tgt := 18) hx hb dX9_mayBeLeft_1 rfl (fun c => ?_) (fun c => ?_)
    · replace h := h.1 c
      exact zJ_18  M H locs ls hW (lv_sub hl [0, 1, 2] rfl) h
    · replace h := h.2 c
      refine lv_aload_n hx hb dX9_mayBeLeft_4 rfl (lv_at hl 0 rfl) ?_
      refine zg_Told_whole X hW h0 zu_52 dX9_mayBeLeft_5 ?_
      refine lv_iload_n hx hb dX9_mayBeLeft_8 rfl (lv_at hl 2 rfl) ?_
      refine lv_ishr hx hb dX9_mayBeLeft_9 ?_
      refine lv_iconst hx hb dX9_mayBeLeft_10 zc_i1 ?_
      refine lv_iand hx hb dX9_mayBeLeft_11 ?_
      refine lv_iconst hx hb dX9_mayBeLeft_12 zc_i1 ?_
      refine lv_icmp_ne (tgt := 18) hx hb dX9_mayBeLeft_13 rfl (fun c => ?_) (fun c => ?_)
      · replace h := h.1 c
        exact zJ_18  M H locs ls hW (lv_sub hl [0, 1, 2] rfl) h
      · replace h := h.2 c
        refine lv_iconst hx hb dX9_mayBeLeft_16 zc_i0 ?_
        exact zretz X hr hlk hW rfl h dX9_mayBeLeft_17
  exact zMain s.heap [] ls hW hl
